/-! the search: the reference's candidates are the class's -/
theorem Inv_en {FL : List Frm} {rp : Nat → Nat} {BL : List (Nat × Nat)} (hI : Inv FL rp BL) (hC : Clo (fE FL) (Rf rp)) (hV : VR (fE FL) rp) (hr : ∀ x, x < (fE FL).length → rp x < (fE FL).length ∧ rp (rp x) = rp x) {x : Nat} (hx : x < (fE FL).length) : (isV (fE FL) (rp x) ↔ isV (fE FL) (fo (fE FL) (sl FL) BL x)) ∧ (¬ isV (fE FL) (rp x) → en (fE FL) (rp x) = en (fE FL) (fo (fE FL) (sl FL) BL x)) := by
  obtain ⟨i1, i2, i3, i4, i5, i6⟩ := hI
  have gx := (fo_fin (s := sl FL) hx i1).1
  have hrx := hr x hx
  have iff1 : isV (fE FL) (rp x) ↔ isV (fE FL) (fo (fE FL) (sl FL) BL x) := by
    constructor
    · intro h
      exact hV x _ hx gx (i3 x hx).symm h
    · intro h
      by_cases q : isV (fE FL) (rp x)
      · exact q
      · have := (i4 x (rp x) hx hrx.1 hrx.2.symm h).1
        rw [fo_nv q] at this
        exact absurd this q
  refine ⟨iff1, fun h => ?_⟩
  have h2 : ¬ isV (fE FL) (fo (fE FL) (sl FL) BL x) := fun z => h (iff1.mpr z)
  exact (hC (rp x) _ hrx.1 gx (by show rp (rp x) = rp _; rw [hrx.2, i3 x hx]) h h2).1
theorem fits_eq {FL : List Frm} {rp : Nat → Nat} {BL : List (Nat × Nat)} {Cs : List Part} {g : Nat} (hW : WE (fE FL)) (hI : Inv FL rp BL) (hC : Clo (fE FL) (Rf rp)) (hV : VR (fE FL) rp) (hr : ∀ x, x < (fE FL).length → rp x < (fE FL).length ∧ rp (rp x) = rp x) (hg : g < (fE FL).length) : fits (fE FL) rp Cs g = fits (fE FL) (fo (fE FL) (sl FL) BL) Cs g := by
  unfold fits
  refine List.filter_congr (fun c _ => ?_)
  have key : FitP (fE FL) rp (Cs.getD c ([], [])) g ↔ FitP (fE FL) (fo (fE FL) (sl FL) BL) (Cs.getD c ([], [])) g := by
    unfold FitP
    by_cases h0 : nA (fE FL) g = 0
    · constructor
      · rintro ⟨a, -⟩; exact ⟨a, Or.inl h0⟩
      · rintro ⟨a, -⟩; exact ⟨a, Or.inl h0⟩
    · have hch := ch_lt hW hg (show 0 < nA (fE FL) g by omega)
      obtain ⟨k1, k2⟩ := Inv_en hI hC hV hr hch
      constructor
      · rintro ⟨a, b⟩
        refine ⟨a, ?_⟩
        rcases b with b | b | b | b
        · exact Or.inl b
        · exact Or.inr (Or.inl b)
        · exact Or.inr (Or.inr (Or.inl (k1.mp b)))
        · by_cases v : isV (fE FL) (rp (ch (fE FL) g 0))
          · exact Or.inr (Or.inr (Or.inl (k1.mp v)))
          · rw [k2 v] at b; exact Or.inr (Or.inr (Or.inr b))
      · rintro ⟨a, b⟩
        refine ⟨a, ?_⟩
        rcases b with b | b | b | b
        · exact Or.inl b
        · exact Or.inr (Or.inl b)
        · exact Or.inr (Or.inr (Or.inl (k1.mpr b)))
        · by_cases v : isV (fE FL) (rp (ch (fE FL) g 0))
          · exact Or.inr (Or.inr (Or.inl v))
          · rw [← k2 v] at b; exact Or.inr (Or.inr (Or.inr b))
  cases h1 : fitB (fE FL) rp (Cs.getD c ([], [])) g with
  | true => exact (fitB_iff.mpr (key.mp (fitB_iff.mp h1))).symm
  | false =>
    cases h2 : fitB (fE FL) (fo (fE FL) (sl FL) BL) (Cs.getD c ([], [])) g with
    | false => rfl
    | true =>
      have := fitB_iff.mpr (key.mpr (fitB_iff.mp h2))
      rw [h1] at this
      cases this
theorem sp_candM {FL : List Frm} {BL : List (Nat × Nat)} {Cs : List Part} {m : Ob} {p f : Int} {g k0 : Nat} {K : Int → Ob → Prop} (hM : MW FL m) (hB : BdOk FL m BL) (hL : Lo FL p f g) (hnv : ¬ isV (fE FL) g) (h10 : m.1 10 = (Cs.length : Int)) (h24 : Cs.length ≤ 24) (hCl : ∀ (A : List Part) (P : Part) (C : List Part), Cs = A ++ P :: C → MCl m (A.length : Int) P) (hok : ∀ P ∈ Cs, PSh P ∧ P.1 ≠ []) (hk0 : k0 ≤ 24)
    (hK1 : ∀ (k : Nat) (m' : Ob), sfr m m' → k ∈ fits (fE FL) (fo (fE FL) (sl FL) BL) Cs g → k0 ≤ k → (∀ j ∈ fits (fE FL) (fo (fE FL) (sl FL) BL) Cs g, k0 ≤ j → k ≤ j) → K (k : Int) m')
    (hK0 : ∀ m', sfr m m' → (∀ j ∈ fits (fE FL) (fo (fE FL) (sl FL) BL) Cs g, ¬ k0 ≤ j) → K (-1) m') : wp_M_candidate p f ((k0 : Int) - 1) m K := by
  have l := Lo_en hM hL
  have loop : ∀ (n k : Nat) (m' : Ob), 0 < n → Cs.length < n + k → sfr m m' → k0 ≤ k → (∀ j ∈ fits (fE FL) (fo (fE FL) (sl FL) BL) Cs g, k0 ≤ j → k ≤ j) → M_candidate_5 n p f (k : Int) m' K := by
    intro n
    induction n with
    | zero => intro k m' h0; omega
    | succ n ih =>
      intro k m' hn0 hn hs hk hj
      have e10 : m'.1 10 = (Cs.length : Int) := (hs.1 10 (by decide) (by decide)).trans h10
      refine ⟨fun z => hK0 m' hs (fun j hj1 hj2 => ?_), fun z => ?_⟩
      · have := hj j hj1 hj2
        have := (fits_mem.mp hj1).1
        omega
      · have hkl : k < Cs.length := by omega
        obtain ⟨A, C, hA, hAl⟩ := getD_split hkl
        have hm : Cs.getD k ([], []) ∈ Cs := by
          have : Cs.getD k ([], []) ∈ A ++ Cs.getD k ([], []) :: C := List.mem_append_right _ List.mem_cons_self
          rw [← hA] at this
          exact this
        obtain ⟨ps, pne⟩ := hok _ hm
        have cl := MCl_sfr (hCl A _ C hA) hs
        rw [hAl] at cl
        obtain ⟨c1, c2, c3, c4⟩ := cl
        have hlen : 0 < (pL (Cs.getD k ([], []))).length ∧ ((pL (Cs.getD k ([], []))).getD 0 (0, 0)).1 ≠ -1 := by
          rcases ps.1 with w | ⟨-, -, a, wd, T, e, -⟩
          · exact absurd w pne
          · have h0 : (pL (Cs.getD k ([], []))).getD 0 (0, 0) = ((a : Int), wd) := by unfold pL; rw [e]; rfl
            refine ⟨by unfold pL; rw [e, List.length_append, List.length_cons]; omega, ?_⟩
            rw [h0]; show (a : Int) ≠ -1; omega
        have ch0 := c2 0 hlen.1
        rw [show 40 * (k : Int) + ((0 : Nat) : Int) = 40 * (k : Int) by omega] at ch0
        have cm0 : cM (pL (Cs.getD k ([], []))) 0 = ((pL (Cs.getD k ([], []))).getD 0 (0, 0)).2 := if_neg hlen.2
        have lp := Lo_en (MW_sfr hM hs) hL
        have ep : m'.2.2.2 2 p = (en (fE FL) g).2 := lp.2.2.2.2.2.2.1 hnv
        have ea : m'.2.1 10 p = (en (fE FL) g).1 := lp.2.2.2.2.2.1
        have nx : ∀ m2, sfr m m2 → ¬ FitP (fE FL) (fo (fE FL) (sl FL) BL) (Cs.getD k ([], [])) g → M_candidate_159 (fun x1 x2 x4 m' => M_candidate_5 n x1 x2 x4 m' K) p f (k : Int) 0 m2 K := fun m2 s2 hno => by
          refine ⟨fun _ => ⟨⟨by omega, by omega⟩, ?_⟩, fun w => absurd rfl w⟩
          have := ih (k + 1) m2 (by omega) (by omega) s2 (by omega) (fun j j1 j2 => by
            have := hj j j1 j2
            by_cases e : j = k
            · subst e; exact absurd (fits_mem.mp j1).2 hno
            · omega)
          exact this
        have hit : ∀ m2, sfr m m2 → FitP (fE FL) (fo (fE FL) (sl FL) BL) (Cs.getD k ([], [])) g → M_candidate_159 (fun x1 x2 x4 m' => M_candidate_5 n x1 x2 x4 m' K) p f (k : Int) 1 m2 K := fun m2 s2 hyes => ⟨fun w => absurd w (by decide), fun _ => hK1 k m2 s2 (fits_mem.mpr ⟨hkl, hyes⟩) hk hj⟩
        refine ⟨⟨by omega, by omega⟩, ⟨by omega, by omega⟩, ⟨l.1, l.2.1⟩, fun w => ⟨fun _ => nx m' hs (fun hf => w ?_), fun w2 => absurd rfl w2⟩, fun w => ⟨⟨by omega, by omega⟩, ⟨l.1, l.2.1⟩, fun w2 => ⟨fun _ => nx m' hs (fun hf => w2 ?_), fun w3 => absurd rfl w3⟩, fun w2 => ?_⟩⟩
        · rw [ch0.2, cm0, ep, hf.1]
        · rw [ch0.1, ea, hf.1]
        · rw [ch0.2, cm0, ep] at w
          rw [ch0.1, ea] at w2
          have he : en (fE FL) g = (pL (Cs.getD k ([], []))).getD 0 (0, 0) := (Prod.ext w2 w).symm
          refine ⟨fun w3 => absurd w3 (by decide), fun _ => ⟨⟨l.1, l.2.1⟩, fun w3 => hit m' hs ⟨he, Or.inl ?_⟩, fun w3 => ?_⟩⟩
          · rw [ea] at w3; unfold nA; omega
          · rw [ea] at w3
            have hpos : 0 < nA (fE FL) g := by unfold nA; omega
            have hLc := Lo_ch (MW_sfr hM hs) hL hpos
            have e0 := ch_0 (fE FL) g
            rw [show p + ((ch (fE FL) g 0 - g : Nat) : Int) = p + 1 by omega] at hLc
            have l1 : 1 < (pL (Cs.getD k ([], []))).length := by
              have hWP : WE (pL (Cs.getD k ([], []))) := by
                obtain ⟨b, hb⟩ := PSh_tms ps
                exact WE_tms hb
              have e2 : nA (pL (Cs.getD k ([], []))) 0 = nA (fE FL) g := by unfold nA; rw [he]; rfl
              have := ch_lt hWP hlen.1 (show 0 < nA (pL (Cs.getD k ([], []))) 0 by omega)
              rw [ch_0] at this
              omega
            have ch1 := c2 1 l1
            rw [show 40 * (k : Int) + ((1 : Nat) : Int) = 40 * (k : Int) + 1 by omega] at ch1
            have hp1 := l.2.1
            have hp0 := l.1
            refine ⟨⟨by omega, by omega⟩, ?_⟩
            refine sp_follow (MW_sfr hM hs) (BdOk_sfr hB hs) hLc (fun p' f' hL' => ⟨⟨by omega, by omega⟩, ⟨by omega, by omega⟩, ?_⟩)
            have s2 := sfr_trans hs (sfr_19 m' p' f')
            have l' := Lo_en (MW_sfr hM s2) hL'
            have ea' : (m19 m' p' f').2.1 10 p' = (en (fE FL) (fo (fE FL) (sl FL) BL (ch (fE FL) g 0))).1 := l'.2.2.2.2.2.1
            have hm10 : (m19 m' p' f').2.1 10 (40 * (k : Int) + 1) = ((pL (Cs.getD k ([], []))).getD 1 (0, 0)).1 := ch1.1
            have hm2 : (m19 m' p' f').2.2.2 2 (40 * (k : Int) + 1) = cM (pL (Cs.getD k ([], []))) 1 := ch1.2
            refine ⟨fun w4 => hit _ s2 ⟨he, Or.inr (Or.inl (hm10.symm.trans w4))⟩, fun w4 => ⟨⟨l'.1, l'.2.1⟩, fun w5 => hit _ s2 ⟨he, Or.inr (Or.inr (Or.inl (ea'.symm.trans w5)))⟩, fun w5 => ⟨⟨by omega, by omega⟩, ⟨l'.1, l'.2.1⟩, fun w6 => nx _ s2 (fun hf => ?_), fun w6 => ⟨⟨by omega, by omega⟩, ⟨l'.1, l'.2.1⟩, fun w7 => nx _ s2 (fun hf => ?_), fun w7 => hit _ s2 ⟨he, Or.inr (Or.inr (Or.inr ?_))⟩⟩⟩⟩⟩
            all_goals
              have nv1 : ((pL (Cs.getD k ([], []))).getD 1 (0, 0)).1 ≠ -1 := fun z => w4 (hm10.trans z)
              have nv2 : ¬ isV (fE FL) (fo (fE FL) (sl FL) BL (ch (fE FL) g 0)) := fun z => w5 (ea'.trans z)
              have ec' : (m19 m' p' f').2.2.2 2 p' = (en (fE FL) (fo (fE FL) (sl FL) BL (ch (fE FL) g 0))).2 := l'.2.2.2.2.2.2.1 nv2
              have em : cM (pL (Cs.getD k ([], []))) 1 = ((pL (Cs.getD k ([], []))).getD 1 (0, 0)).2 := if_neg nv1
            · rcases hf.2 with q | q | q | q
              · omega
              · exact nv1 q
              · exact nv2 q
              · apply w6
                show (m19 m' p' f').2.2.2 2 (40 * (k : Int) + 1) = (m19 m' p' f').2.2.2 2 p'
                rw [hm2, ec', em, q]
            · rcases hf.2 with q | q | q | q
              · omega
              · exact nv1 q
              · exact nv2 q
              · apply w7
                show (m19 m' p' f').2.1 10 (40 * (k : Int) + 1) = (m19 m' p' f').2.1 10 p'
                rw [hm10, ea', q]
            · have w6 : (m19 m' p' f').2.2.2 2 (40 * (k : Int) + 1) = (m19 m' p' f').2.2.2 2 p' := w6
              have w7 : (m19 m' p' f').2.1 10 (40 * (k : Int) + 1) = (m19 m' p' f').2.1 10 p' := w7
              rw [hm2, ec', em] at w6
              rw [hm10, ea'] at w7
              exact (Prod.ext w7 w6).symm
  refine ⟨⟨by omega, by omega⟩, Cs.length + 1, ?_⟩
  rw [show (k0 : Int) - 1 + 1 = (k0 : Int) by omega]
  exact loop (Cs.length + 1) k0 m (by omega) (by omega) (sfr_refl m) (Nat.le_refl _) (fun j _ h => h)
