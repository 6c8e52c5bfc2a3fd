/-! answer: the reference writes a term, the rest of a list -/
theorem aTo_hd (E : List Sy) (c : Nat) : ∀ k, aTo E c (k + 1) = (2, 40) :: (aTo E c (k + 1)).tail
  | 0 => rfl
  | k + 1 => by rw [aTo_s E c (k + 1), aTo_hd E c k]; rfl
theorem aTo_tl (E : List Sy) (c k : Nat) (st : List It) : (aTo E c (k + 1)).tail ++ st = if k = 0 then (0, ch E c k) :: st else (aTo E c k).tail ++ ((2, 44) :: (0, ch E c k) :: st) := by
  cases k with
  | zero => rw [if_pos rfl]; rfl
  | succ k =>
    rw [if_neg (by omega), aTo_s E c (k + 1), aTo_hd E c k, if_neg (by omega)]
    show ((aTo E c (k + 1)).tail ++ [(2, 44), (0, ch E c (k + 1))]) ++ st = _
    rw [List.append_assoc]; rfl
section MTM
variable {NL : List Nat} {FL : List Frm} {rp : Nat → Nat} {BL : List (Nat × Nat)} {m : Ob} {N : List Nat} {out : List Int} {st : List It} {p f : Int} {x y : Nat} {K : Int → Ob → Prop}
/-- both cells of a list are put by -/
theorem sp_mlist (hM : MW FL m) {z c : Nat} (hL : Lo FL p f z) (hn2 : nA (fE FL) z = 2) (hch : ∀ k, k < 2 → rp (ch (fE FL) z k) = rp (ch (fE FL) c k)) (h : MWr FL rp BL m N out st) (hs : st.length + 2 ≤ 512) (hK : ∀ m', MWr FL rp BL m' N out ((0, ch (fE FL) c 0) :: (1, ch (fE FL) c 1) :: st) → wxf m m' → K (3 * (((0, ch (fE FL) c 0) :: (1, ch (fE FL) c 1) :: st : List It).length : Int)) m') : R32 (p + 1) ∧ wp_M_behind (p + 1) m (fun r_13 => wp_M_later (3 * (st.length : Int)) 2 r_13 f m (fun r_15 m_14 => R32 (p + 1) ∧ wp_M_later r_15 0 (p + 1) f m_14 (fun r_17 m_16 => K r_17 m_16))) := by
  have q := Lo_en hM hL
  have e1 : ch (fE FL) z 1 = z + 1 + tsz (fE FL) (z + 1) := by
    have := ch_succ (fE FL) z 0
    rw [ch_0] at this
    exact this
  have L0 : Lo FL (p + 1) f (ch (fE FL) z 0) := by
    have := Lo_ch hM hL (show 0 < nA (fE FL) z by omega)
    rw [show p + ((ch (fE FL) z 0 - z : Nat) : Int) = p + 1 by rw [ch_0]; omega] at this
    exact this
  have L1 : Lo FL (p + 1 + (tsz (fE FL) (ch (fE FL) z 0) : Int)) f (ch (fE FL) z 1) := by
    have := Lo_ch hM hL (show 1 < nA (fE FL) z by omega)
    rw [show p + ((ch (fE FL) z 1 - z : Nat) : Int) = p + 1 + (tsz (fE FL) (ch (fE FL) z 0) : Int) by rw [e1, ch_0]; omega] at this
    exact this
  have q1 := q.1
  have q2 := q.2.1
  refine ⟨⟨by omega, by omega⟩, sp_behind hM L0 ?_⟩
  refine sp_mlater (i := (1, ch (fE FL) c 1)) h (by omega) (Or.inr ⟨by show 1 < 2; decide, rfl, _, L1, hch 1 (by decide)⟩) (fun m1 c1 f1 => ⟨⟨by omega, by omega⟩, ?_⟩)
  exact sp_mlater (i := (0, ch (fE FL) c 0)) c1 (by rw [List.length_cons]; omega) (Or.inr ⟨by show 0 < 2; decide, rfl, _, L0, hch 0 (by decide)⟩) (fun m2 c2 f2 => hK m2 c2 (wxf_trans f1 f2))
/-- the arguments of a name are put by -/
theorem sp_margs (hM : MW FL m) {z c : Nat} (hL : Lo FL p f z) (hch : ∀ k, k < nA (fE FL) z → rp (ch (fE FL) z k) = rp (ch (fE FL) c k)) : ∀ (k : Nat) (st' : List It) (m' : Ob), k ≤ nA (fE FL) z → st'.length + 2 * k ≤ 1000 → MWr FL rp BL m' N out st' → wxf m m' → (∀ m2, MWr FL rp BL m2 N out ((aTo (fE FL) c k).tail ++ st') → wxf m m2 → K (3 * (((aTo (fE FL) c k).tail ++ st').length : Int)) m2) → M_writeTerm_155 (k + 1) p f (3 * (st'.length : Int)) ((k : Int) - 1) m' K := by
  have q := Lo_en hM hL
  have q1 := q.1
  have q2 := q.2.1
  have n4 := nA_4 hM q.2.2.2.2.1
  intro k
  induction k with
  | zero =>
    intro st' m' _ _ h1 h2 h3
    exact ⟨fun _ => h3 m' h1 h2, fun z => by omega⟩
  | succ k ih =>
    intro st' m' hk hl h1 h2 h3
    rw [show ((k + 1 : Nat) : Int) - 1 = (k : Int) by omega]
    refine ⟨fun z => by omega, fun _ => ⟨⟨by omega, by omega⟩, k + 1, ?_⟩⟩
    have hMm := MW_wxf hM h2
    have inner : ∀ (n j : Nat), j ≤ k → k < n + j → M_writeTerm_168 (fun x1 x2 x4 x5 m' => M_writeTerm_155 (k + 1) x1 x2 x4 x5 m' K) n p f (3 * (st'.length : Int)) (k : Int) (p + ((ch (fE FL) z j - z : Nat) : Int)) (j : Int) m' K := by
      intro n
      induction n with
      | zero => intro j a b; omega
      | succ n ihn =>
        intro j a b
        refine ⟨fun w => ?_, fun w => ?_⟩
        · have : j = k := by omega
          subst this
          have Lk := Lo_ch hM hL (show j < nA (fE FL) z by omega)
          refine sp_mlater (i := (0, ch (fE FL) c j)) h1 (by omega) (Or.inr ⟨by show 0 < 2; decide, rfl, _, Lk, hch j (by omega)⟩) (fun m1 c1 f1 => ⟨fun w2 => ⟨⟨by omega, by omega⟩, ?_⟩, fun w2 => ?_⟩)
          · have j0 : j = 0 := by omega
            subst j0
            have := ih ((0, ch (fE FL) c 0) :: st') m1 (by omega) (by rw [List.length_cons]; omega) c1 (wxf_trans h2 f1) (fun m2 c2 f2 => ?_)
            · exact this
            · have e := aTo_tl (fE FL) c 0 st'
              rw [if_pos rfl] at e
              have h3' := h3 m2
              rw [e] at h3'
              exact h3' c2 f2
          · refine sp_mlater (i := (2, 44)) c1 (by rw [List.length_cons]; omega) (Or.inl ⟨rfl, rfl, rfl⟩) (fun m2 c2 f2 => ⟨⟨by omega, by omega⟩, ?_⟩)
            have := ih ((2, 44) :: (0, ch (fE FL) c j) :: st') m2 (by omega) (by rw [List.length_cons, List.length_cons]; omega) c2 (wxf_trans h2 (wxf_trans f1 f2)) (fun m3 c3 f3 => ?_)
            · exact this
            · have e := aTo_tl (fE FL) c j st'
              rw [if_neg (by omega)] at e
              have h3' := h3 m3
              rw [e] at h3'
              exact h3' c3 f3
        · refine sp_behind hMm (Lo_ch hM hL (show j < nA (fE FL) z by omega)) ⟨⟨by omega, by omega⟩, ?_⟩
          have := ihn (j + 1) (by omega) (by omega)
          have g1 := ch_gt (E := fE FL) z j
          rw [ch_succ, show p + ((ch (fE FL) z j + tsz (fE FL) (ch (fE FL) z j) - z : Nat) : Int) = p + ((ch (fE FL) z j - z : Nat) : Int) + (tsz (fE FL) (ch (fE FL) z j) : Int) by omega] at this
          exact this
    have := inner (k + 1) 0 (Nat.zero_le _) (by omega)
    rw [ch_0, show p + ((z + 1 - z : Nat) : Int) = p + 1 by omega] at this
    exact this
theorem sp_mterm (hc : WCx NL FL rp BL) (hM : MW FL m) (hy : y < (fE FL).length) (hL : Lo FL p f (fo (fE FL) (sl FL) BL y)) (hyx : rp y = rp x) (hct : en (fE FL) (rp x) ≠ (-2, 0)) (h : MWr FL rp BL m N out st) (hl : out.length + (stp (fE FL) rp (0, x) N).1.length ≤ 1200) (hs : st.length + (stp (fE FL) rp (0, x) N).2.1.length ≤ 512) (hN : (stp (fE FL) rp (0, x) N).2.2.length ≤ 100) (hl3 : out.length + 3 ≤ 1200)
    (hK1 : ∀ m', MWr FL rp BL m' (stp (fE FL) rp (0, x) N).2.2 (out ++ (stp (fE FL) rp (0, x) N).1) ((stp (fE FL) rp (0, x) N).2.1 ++ st) → wxf m m' → K (3 * (((stp (fE FL) rp (0, x) N).2.1 ++ st).length : Int)) m')
    (hK2 : ∀ (S : List It) (m' : Ob), (stp (fE FL) rp (0, x) N).2.1 = (2, 40) :: S → (stp (fE FL) rp (0, x) N).2.2 = N → MWr FL rp BL m' N (out ++ (stp (fE FL) rp (0, x) N).1 ++ [40]) (S ++ st) → wxf m m' → K (3 * ((S ++ st).length : Int)) m') : wp_M_writeTerm p f (3 * (st.length : Int)) m K := by
  obtain ⟨q1, q2, q3, q4, q5, q6, q7, q8⟩ := Lo_en hM hL
  have hv := wc_v hc hy
  have hx : rp x < (fE FL).length := by rw [← hyx]; exact (hc.2.2.2.1 y hy).1
  obtain ⟨ok, o4, om⟩ := hc.2.2.2.2.1 _ hx
  have e00 : stp (fE FL) rp (0, x) N = if (en (fE FL) (rp x)).1 = -1 then (vtx (idx (nuN N (rp x)) (rp x)), [], nuN N (rp x)) else if en (fE FL) (rp x) = (0, 2) then ([91, 93], [], N) else if en (fE FL) (rp x) = (2, 1) then ([91], [(0, ch (fE FL) (rp x) 0), (1, ch (fE FL) (rp x) 1)], N) else (wdL (en (fE FL) (rp x)).2, aIt (fE FL) (rp x) (nA (fE FL) (rp x)), N) := rfl
  refine ⟨⟨q1, q2⟩, fun z => ?_, fun z => ?_⟩
  · have hnv : ¬ isV (fE FL) (rp y) := fun w => z (by rw [q6]; exact hv.mpr w)
    obtain ⟨c1, c2⟩ := wc_e hc hy hnv
    have q7' := q7 (fun w => hnv (hv.mp w))
    rw [hyx] at hnv c1 c2
    have hna : nA (fE FL) (fo (fE FL) (sl FL) BL y) = nA (fE FL) (rp x) := by unfold nA; rw [c1]
    rw [c1] at q6 q7'
    rcases ok with (w | w | w | ⟨w1, w2, w3⟩) | w
    · exact absurd w hnv
    · -- a list
      have hn2 : nA (fE FL) (rp x) = 2 := by unfold nA; rw [w]; rfl
      rw [w, if_neg (by decide), if_neg (by decide), if_pos rfl] at e00
      rw [e00] at hK1 hs
      have hs : st.length + 2 ≤ 512 := hs
      refine ⟨⟨q1, q2⟩, fun z1 => absurd (by rw [q7', w]) z1, fun _ => ?_⟩
      refine sp_mput h (by omega) (fun m1 d1 f1 => ?_)
      exact sp_mlist (c := rp x) (MW_wxf hM f1) hL (by rw [hna]; exact hn2) (fun k hk => c2 k (by omega)) d1 hs (fun m2 d2 f2 => hK1 m2 d2 (wxf_trans f1 f2))
    · -- nothing
      rw [w, if_neg (by decide), if_pos rfl] at e00
      rw [e00] at hK1
      have e2 : m.2.2.2 2 p = 2 := by rw [q7', w]
      refine ⟨⟨q1, q2⟩, fun _ => ⟨⟨q1, q2⟩, fun z2 => absurd e2 z2, fun _ => ?_⟩, fun z1 => by rw [e2] at z1; exact absurd z1 (by decide)⟩
      refine sp_mput h (by omega) (fun m1 d1 f1 => ?_)
      refine sp_mput d1 (by rw [List.length_append, List.length_singleton]; omega) (fun m2 d2 f2 => hK1 m2 ?_ (wxf_trans f1 f2))
      rw [List.append_assoc] at d2
      exact d2
    · -- a name
      have n1 : en (fE FL) (rp x) ≠ (0, 2) := fun e => w3 (by rw [e])
      have n2 : en (fE FL) (rp x) ≠ (2, 1) := fun e => w2 (by rw [e])
      rw [if_neg (by omega), if_neg n1, if_neg n2] at e00
      rw [e00] at hK1 hK2 hl hs
      have hl : out.length + (wdL (en (fE FL) (rp x)).2).length ≤ 1200 := hl
      have h4 : nA (fE FL) (rp x) ≤ 4 := by unfold nA; omega
      refine ⟨⟨q1, q2⟩, fun _ => ⟨⟨q1, q2⟩, fun _ => ⟨⟨q1, q2⟩, ?_⟩, fun z2 => absurd (by rw [← q7']; exact z2) w3⟩, fun z1 => absurd (by rw [← q7']; exact z1) w2⟩
      rw [q7']
      refine sp_mword h hl (fun m1 d1 f1 => ⟨⟨q1, q2⟩, fun za => ?_, fun za => ?_⟩)
      · rw [f1.2.1 10 (by decide) (by decide) (by decide), q6] at za
        obtain ⟨n, hn⟩ : ∃ n, nA (fE FL) (rp x) = n + 1 := ⟨nA (fE FL) (rp x) - 1, by unfold nA; omega⟩
        refine sp_mput d1 (by rw [List.length_append]; omega) (fun m2 d2 f2 => ?_)
        have hst : st.length + (aIt (fE FL) (rp x) (nA (fE FL) (rp x))).length ≤ 512 := hs
        refine sp_mlater (i := (2, 41)) d2 (by omega) (Or.inl ⟨rfl, rfl, rfl⟩) (fun m3 d3 f3 => ⟨⟨q1, q2⟩, ?_⟩)
        have f13 := wxf_trans f1 (wxf_trans f2 f3)
        have e10 : m3.2.1 10 p = ((n + 1 : Nat) : Int) := by
          rw [f13.2.1 10 (by decide) (by decide) (by decide), q6, ← hn]
          unfold nA; omega
        rw [e10]
        refine ⟨⟨by omega, by omega⟩, n + 1 + 1, ?_⟩
        refine sp_margs (c := rp x) hM hL (fun k hk => c2 k (by omega)) (n + 1) ((2, 41) :: st) m3 (by omega) (by rw [List.length_cons]; omega) d3 f13 (fun m4 d4 f4 => ?_)
        have hit : aIt (fE FL) (rp x) (nA (fE FL) (rp x)) = (2, 40) :: ((aTo (fE FL) (rp x) (n + 1)).tail ++ [(2, 41)]) := by
          rw [aIt_eq _ _ _ (by omega), hn]
          exact congrArg (· ++ [(2, 41)]) (aTo_hd (fE FL) (rp x) n)
        have key := hK2 ((aTo (fE FL) (rp x) (n + 1)).tail ++ [(2, 41)]) m4 hit rfl
        rw [List.append_assoc (aTo (fE FL) (rp x) (n + 1)).tail [(2, 41)] st] at key
        exact key d4 f4
      · rw [f1.2.1 10 (by decide) (by decide) (by decide), q6] at za
        have h0 : nA (fE FL) (rp x) = 0 := by unfold nA; rw [za]; rfl
        rw [h0] at hK1
        exact hK1 m1 d1 f1
    · exact absurd w hct
  · -- a variable
    have hvz : isV (fE FL) (fo (fE FL) (sl FL) BL y) := q6.symm.trans z
    have hvy := hv.mp hvz
    have hvx : (en (fE FL) (rp x)).1 = -1 := by rw [← hyx]; exact hvy
    rw [if_pos hvx] at e00
    rw [e00] at hK1 hN
    obtain ⟨r1, r2, r3⟩ := q8 hvz
    have h61 := hc.2.2.2.2.2
    refine ⟨⟨by omega, by omega⟩, ⟨q1, q2⟩, by omega, ⟨by omega, by omega⟩, ?_⟩
    rw [← r1]
    have hN : (nuN N (rp x)).length ≤ 100 := hN
    exact sp_mvar hc hy r3 hvy h (by rw [hyx]; exact hN) hl3 (fun m1 d1 f1 => hK1 m1 (by rw [hyx] at d1; exact d1) f1)
theorem sp_mrest (hc : WCx NL FL rp BL) (hM : MW FL m) (hy : y < (fE FL).length) (hL : Lo FL p f (fo (fE FL) (sl FL) BL y)) (hyx : rp y = rp x) (h : MWr FL rp BL m N out st) (hl : out.length < 1200) (hs : st.length + 2 ≤ 512)
    (hK : ∀ m', MWr FL rp BL m' (stp (fE FL) rp (1, x) N).2.2 (out ++ (stp (fE FL) rp (1, x) N).1) ((stp (fE FL) rp (1, x) N).2.1 ++ st) → wxf m m' → K (3 * (((stp (fE FL) rp (1, x) N).2.1 ++ st).length : Int)) m') : wp_M_writeRest p f (3 * (st.length : Int)) m K := by
  obtain ⟨q1, q2, q3, q4, q5, q6, q7, q8⟩ := Lo_en hM hL
  have hv := wc_v hc hy
  have hx : rp x < (fE FL).length := by rw [← hyx]; exact (hc.2.2.2.1 y hy).1
  have hrz : rp (fo (fE FL) (sl FL) BL y) = rp (rp x) := by
    rw [hc.1.2.2.1 y hy, hyx.symm, (hc.2.2.2.1 y hy).2]
  have e00 : stp (fE FL) rp (1, x) N = if en (fE FL) (rp x) = (0, 2) then ([93], [], N) else if en (fE FL) (rp x) = (2, 1) then ([44], [(0, ch (fE FL) (rp x) 0), (1, ch (fE FL) (rp x) 1)], N) else ([124], [(0, rp x), (2, 93)], N) := rfl
  have hnv : 0 ≤ (en (fE FL) (rp x)).1 → en (fE FL) (fo (fE FL) (sl FL) BL y) = en (fE FL) (rp x) ∧ m.2.2.2 2 p = (en (fE FL) (rp x)).2 ∧ ∀ k, k < nA (fE FL) (rp x) → rp (ch (fE FL) (fo (fE FL) (sl FL) BL y) k) = rp (ch (fE FL) (rp x) k) := fun h0 => by
    have n1 : ¬ isV (fE FL) (rp y) := fun w => by
      have w : (en (fE FL) (rp y)).1 = -1 := w
      rw [hyx] at w; omega
    obtain ⟨c1, c2⟩ := wc_e hc hy n1
    rw [hyx] at c1 c2
    have := q7 (fun w => n1 (hv.mp w))
    rw [c1] at this
    exact ⟨c1, this, c2⟩
  have e10 : m.2.1 10 p = (en (fE FL) (rp x)).1 := by
    by_cases w : isV (fE FL) (rp y)
    · have h1 : (en (fE FL) (fo (fE FL) (sl FL) BL y)).1 = -1 := hv.mpr w
      have h2 : (en (fE FL) (rp y)).1 = -1 := w
      rw [hyx] at h2
      rw [q6, h1, h2]
    · have c1 := (wc_e hc hy w).1
      rw [hyx] at c1
      rw [q6, c1]
  by_cases w0 : en (fE FL) (rp x) = (0, 2)
  · obtain ⟨c1, c2, c3⟩ := hnv (by rw [w0]; decide)
    rw [w0] at e10 c2
    rw [if_pos w0] at e00
    rw [e00] at hK
    refine ⟨⟨q1, q2⟩, fun z => absurd e10 z, fun _ => ⟨⟨q1, q2⟩, fun z => absurd c2 z, fun _ => ?_⟩⟩
    exact sp_mput h (by omega) (fun m1 d1 f1 => hK m1 d1 f1)
  · by_cases w1 : en (fE FL) (rp x) = (2, 1)
    · obtain ⟨c1, c2, c3⟩ := hnv (by rw [w1]; decide)
      have hn2 : nA (fE FL) (rp x) = 2 := by unfold nA; rw [w1]; rfl
      have hna : nA (fE FL) (fo (fE FL) (sl FL) BL y) = 2 := by unfold nA; rw [c1, w1]; rfl
      rw [w1] at e10 c2
      rw [if_neg w0, if_pos w1] at e00
      rw [e00] at hK
      refine ⟨⟨q1, q2⟩, fun _ => ⟨⟨q1, q2⟩, fun z => absurd e10 z, fun _ => ⟨⟨q1, q2⟩, fun z => absurd c2 z, fun _ => ?_⟩⟩, fun z => by rw [e10] at z; exact absurd z (by decide)⟩
      refine sp_mput h (by omega) (fun m1 d1 f1 => ?_)
      exact sp_mlist (c := rp x) (MW_wxf hM f1) hL hna (fun k hk => c3 k (by omega)) d1 hs (fun m2 d2 f2 => hK m2 d2 (wxf_trans f1 f2))
    · rw [if_neg w0, if_neg w1] at e00
      rw [e00] at hK
      have k85 : M_writeRest_85 p f (3 * (st.length : Int)) m K := by
        refine sp_mput h (by omega) (fun m1 d1 f1 => ?_)
        refine sp_mlater (i := (2, 93)) d1 (by omega) (Or.inl ⟨rfl, rfl, rfl⟩) (fun m2 d2 f2 => ?_)
        exact sp_mlater (i := (0, rp x)) d2 (by rw [List.length_cons]; omega) (Or.inr ⟨by show 0 < 2; decide, rfl, _, hL, hrz⟩) (fun m3 d3 f3 => hK m3 d3 (wxf_trans f1 (wxf_trans f2 f3)))
      have k30 : M_writeRest_30 p f (3 * (st.length : Int)) m K := by
        refine ⟨⟨q1, q2⟩, fun _ => k85, fun z => ⟨⟨q1, q2⟩, fun _ => k85, fun z2 => ?_⟩⟩
        rw [e10] at z
        rw [(hnv (by omega)).2.1] at z2
        exact absurd (Prod.ext z z2) w1
      refine ⟨⟨q1, q2⟩, fun _ => k30, fun z => ⟨⟨q1, q2⟩, fun _ => k30, fun z2 => ?_⟩⟩
      rw [e10] at z
      rw [(hnv (by omega)).2.1] at z2
      exact absurd (Prod.ext z z2) w0
end MTM
/-- the reference's loop over the entries -/
theorem sp_mloop {NL : List Nat} {FL : List Frm} {rp : Nat → Nat} {BL : List (Nat × Nat)} {m0 : Ob} {out' : List Int} {N' : List Nat} {K : Ob → Prop} (hc : WCx NL FL rp BL) (hM : MW FL m0) (hB : BdOk FL m0 BL) (hK : ∀ m', MWr FL rp BL m' N' out' [] → wxf m0 m' → K m') : ∀ (fuel n : Nat) (st : List It) (N : List Nat) (out : List Int) (m : Ob), n ≤ fuel → runC (fE FL) rp n st N out out' N' → MWr FL rp BL m N out st → wxf m0 m → M_write_14 fuel (3 * (st.length : Int)) m K := by
  intro fuel
  induction fuel with
  | zero =>
    intro n st N out m hn hr
    have : n = 0 := by omega
    subst this
    exact absurd hr id
  | succ fuel ih =>
    intro n st N out m hn hr hw hf
    cases n with
    | zero => exact absurd hr id
    | succ n =>
      cases st with
      | nil =>
        obtain ⟨rfl, rfl⟩ := hr
        exact ⟨fun _ => hK m hw hf, fun z => absurd (by decide) z⟩
      | cons i st =>
        obtain ⟨hg, -, h3, hl, hl1, hs, hs2, hN, hr⟩ := hr
        obtain ⟨g0, g1, g2, g3, g4⟩ := hw
        have hpop : MWr FL rp BL m N out st := ⟨g0, g1, g2, g4⟩
        refine ⟨fun z => by rw [List.length_cons] at z; omega, fun _ => ?_⟩
        rw [show 3 * ((i :: st).length : Int) - 3 = 3 * (st.length : Int) by rw [List.length_cons]; omega]
        refine ⟨⟨by omega, by omega⟩, ⟨by omega, by omega⟩, ⟨by omega, by omega⟩, ⟨by omega, by omega⟩, fun z => ?_, fun z => ?_⟩
        · -- a term, a rest
          rcases g3 with ⟨-, e, -⟩ | ⟨hi2, e, y, hL, hyx⟩
          · exact absurd e z
          · have hMm := MW_wxf hM hf
            have hy := (Lo_en hMm hL).2.2.2.2.1
            obtain ⟨-, hx1, hx2, hct⟩ : i.1 < 2 ∧ i.2 < (fE FL).length ∧ rp i.2 < (fE FL).length ∧ en (fE FL) (rp i.2) ≠ (-2, 0) := by
              rcases hg with ⟨q, -⟩ | q
              · omega
              · exact q
            refine ⟨⟨by omega, by omega⟩, ⟨by omega, by omega⟩, ?_⟩
            refine sp_follow hMm (BdOk_wxf hB hf) hL (fun p' f' hL' => ?_)
            have f19 := wxf_19 m p' f'
            have hf1 := wxf_trans hf f19
            have hpop1 : MWr FL rp BL (m19 m p' f') N out st := hpop
            rw [e]
            refine ⟨fun w => ?_, fun w => ?_⟩
            · have hi : i = (1, i.2) := Prod.ext (by show i.1 = 1; omega) rfl
              rw [hi] at hr
              exact sp_mrest (x := i.2) hc (MW_wxf hM hf1) hy hL' hyx hpop1 hl1 hs2 (fun m1 d1 f1 => ih n _ _ _ m1 (by omega) hr d1 (wxf_trans hf1 f1))
            · have hi : i = (0, i.2) := Prod.ext (by show i.1 = 0; omega) rfl
              have h3' := h3 (by omega)
              rw [hi] at hr hl hs hN
              refine sp_mterm (x := i.2) hc (MW_wxf hM hf1) hy hL' hyx hct hpop1 hl hs hN h3' (fun m1 d1 f1 => ih n _ _ _ m1 (by omega) hr d1 (wxf_trans hf1 f1)) (fun S m1 s1 s2 d1 f1 => ?_)
              rw [s1, s2] at hr
              cases n with
              | zero => exact absurd hr id
              | succ n =>
                obtain ⟨-, -, -, -, -, -, -, -, hr⟩ := hr
                exact ih n (S ++ st) N _ m1 (by omega) hr d1 (wxf_trans hf1 f1)
        · -- a letter
          rcases g3 with ⟨hi2, -, e⟩ | ⟨hi2, e, -⟩
          · have e00 : stp (fE FL) rp i N = ([(i.2 : Int)], [], N) := by
              unfold stp
              rw [if_neg (by omega), if_neg (by omega)]
            rw [e00] at hr
            rw [e]
            exact sp_mput hpop (by omega) (fun m1 d1 f1 => ih n st N _ m1 (by omega) hr d1 (wxf_trans hf f1))
          · rw [e] at z; omega
theorem sp_mwrite {NL : List Nat} {FL : List Frm} {rp : Nat → Nat} {BL : List (Nat × Nat)} {m : Ob} {N N1 : List Nat} {t : List Int} {p : Int} {x : Nat} {K : Ob → Prop} (hc : WCx NL FL rp BL) (hM : MW FL m) (hB : BdOk FL m BL) (hL : Lo FL p 0 x) (hN : NSt FL rp BL m N) (hr : runC (fE FL) rp 1000 [(0, x)] N [] t N1) (hK : ∀ m', MWr FL rp BL m' N1 t [] → wxf m m' → K m') : wp_M_write p m K := by
  have h0 : MWr FL rp BL (sI m 21 0) N [] [] := ⟨rfl, fun j hj => absurd hj (Nat.not_lt_zero _), hN, trivial⟩
  have f0 : wxf m (sI m 21 0) := ⟨fun j _ _ z _ => if_neg z, fun _ _ _ _ => rfl, rfl⟩
  have key : wp_M_later (3 * (([] : List It).length : Int)) 0 p 0 (sI m 21 0) (fun r_2 m_1 => ∃ n14, M_write_14 n14 r_2 m_1 K) := by
    refine sp_mlater (i := (0, x)) h0 (by decide) (Or.inr ⟨by show 0 < 2; decide, rfl, x, hL, rfl⟩) (fun m1 d1 f1 => ⟨1000, ?_⟩)
    exact sp_mloop (m0 := m) hc hM hB hK 1000 1000 [(0, x)] N [] m1 (Nat.le_refl _) hr d1 (wxf_trans f0 f1)
  exact key
