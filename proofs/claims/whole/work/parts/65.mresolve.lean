/-! the search: the reference takes a clause -/
theorem Lst_symm {E : List Sy} {R : Nat → Nat → Prop} {a b : Nat} {rp : Nat → Nat} (h : Lst E R a b rp) : Lst E R b a rp := ⟨UnX_symm h.1, h.2.1, fun X hX => h.2.2 X (UnX_symm hX)⟩
section MRS
variable {FL0 : List Frm} {c g D0 : Nat} {P : Part} {rp0 : Nat → Nat} {BL : List (Nat × Nat)}
/-- a new frame, and the goal made equal to its head -/
theorem sp_eqNew {m0 m : Ob} {p f : Int} {K : Int → Ob → Prop} (hM0 : MW FL0 m0) (hB0 : BdOk FL0 m0 BL) (hI : Inv FL0 rp0 BL) (hC : Clo (fE FL0) (Rf rp0)) (hV : VR (fE FL0) rp0) (hr : ∀ x, x < (fE FL0).length → rp0 x < (fE FL0).length ∧ rp0 (rp0 x) = rp0 x) (hg : g < (fE FL0).length) (hD : ∀ x, x < (fE FL0).length → Dp (fE FL0) rp0 D0 x) (h120 : (TL (fE FL0) rp0 D0 g).length ≤ 120) (hP : PSh P) (hov : ¬ ovP P) (hnm : nmT P.1) (hM : MW (FL0 ++ [(c, P)]) m) (hB : BdOk (FL0 ++ [(c, P)]) m BL) (hL : Lo FL0 p f g)
    (hK1 : ∀ (BL' : List (Nat × Nat)) (m' : Ob), efr m m' → BdOk (FL0 ++ [(c, P)]) m' BL' → ((∀ X, UnX (fE FL0 ++ pL P) (Rf (rpN (fE FL0) (pL P) rp0)) g (fE FL0).length X → Acy (fE FL0 ++ pL P) X → False) → False) → (∀ rp', Lst (fE FL0 ++ pL P) (Rf (rpN (fE FL0) (pL P) rp0)) g (fE FL0).length rp' → Inv (FL0 ++ [(c, P)]) rp' BL') → K 1 m')
    (hK0 : (∀ X, UnX (fE FL0 ++ pL P) (Rf (rpN (fE FL0) (pL P) rp0)) g (fE FL0).length X → Acy (fE FL0 ++ pL P) X → False) → ∀ m', efr m m' → K 0 m') : wp_M_equalize (40 * (c : Int)) (FL0.length : Int) p f m K := by
  have hW := fE_WE hM0
  have hWL := WE_P hP
  have hr1 : ∀ x, x < (fE FL0).length → rp0 x < (fE FL0).length := fun x hx => (hr x hx).1
  have hsl : ∀ x, x < (fE FL0).length → isV (fE FL0) x → sl FL0 x < 8 * FL0.length := by
    intro x hx hv
    have pos : ∀ (C A : List Frm) (t : Nat), FL0 = A ++ C → (fE A).length ≤ t → t < (fE FL0).length → ∃ p f, Lo FL0 p f t := by
      intro C
      induction C with
      | nil =>
        intro A t hA h1 h2
        rw [List.append_nil] at hA
        rw [hA] at h2
        omega
      | cons q C ih =>
        intro A t hA h1 h2
        obtain ⟨c, P⟩ := q
        by_cases w : t < (fE A).length + (pL P).length
        · exact ⟨_, _, A, c, P, C, t - (fE A).length, hA, rfl, by omega, rfl, by omega⟩
        · refine ih (A ++ [(c, P)]) t (by rw [hA, List.append_assoc]; rfl) ?_ h2
          rw [fE_snoc, List.length_append]
          show (fE A).length + (pL P).length ≤ t
          omega
    obtain ⟨p, f, h⟩ := pos FL0 [] x rfl (Nat.zero_le _) hx
    exact ((Lo_en hM0 h).2.2.2.2.2.2.2 hv).2.2
  have hIn : Inv (FL0 ++ [(c, P)]) (rpN (fE FL0) (pL P) rp0) BL := Inv_new (q := (c, P)) hW hWL hr1 hsl hI
  have eE : fE (FL0 ++ [(c, P)]) = fE FL0 ++ pL P := fE_snoc FL0 (c, P)
  have hCn : Clo (fE (FL0 ++ [(c, P)])) (Rf (rpN (fE FL0) (pL P) rp0)) := by rw [eE]; exact Clo_new hW hr1 hC
  have hgo := fo_g hI.1
  have hl := TL_len_eq hW hI hC hV hr D0 g g hg hg rfl
  have hDf : Dp (fE FL0) (fo (fE FL0) (sl FL0) BL) D0 g := hl.2 (hD g hg)
  have h0 := (tsz_head hnm).2
  have hlenP : (pL P).length ≤ 40 := (ov_40 hov).1
  have hF : FCl (fE (FL0 ++ [(c, P)])) (fo (fE (FL0 ++ [(c, P)])) (sl (FL0 ++ [(c, P)])) BL) (FR (fE FL0) (pL P) (fo (fE FL0) (sl FL0) BL) D0 g) := by
    rw [eE]
    exact FR_cl hW hWL hgo hg hDf (fun x hx => fo_old (q := (c, P)) hI.1 hx hI.1) (fun j hj => ⟨j, hj, fo_new (q := (c, P)) hI.2.1 hj⟩)
  have hLh : Lo (FL0 ++ [(c, P)]) (40 * (c : Int)) (FL0.length : Int) (fE FL0).length := ⟨FL0, c, P, [], 0, rfl, rfl, h0, by omega, by omega⟩
  refine sp_equal (rp := rpN (fE FL0) (pL P) rp0) (F := FR (fE FL0) (pL P) (fo (fE FL0) (sl FL0) BL) D0 g) (BL := BL) hM hB hCn hIn hF (by rw [FR_len, ← hl.1]; omega) ?_ ?_ hLh (Lo_mono hL) (fun BL' m' e' hB' hU hA hL' => ?_) (fun hno m' e' => ?_)
  · have e : fo (fE (FL0 ++ [(c, P)])) (sl (FL0 ++ [(c, P)])) BL (fE FL0).length = (fE FL0).length := by
      rw [eE]
      have := fo_new (q := (c, P)) (BL := BL) hI.2.1 h0
      rw [Nat.add_zero] at this
      exact this
    rw [e]
    exact List.mem_append_right _ (List.mem_map.mpr ⟨0, List.mem_range.mpr h0, rfl⟩)
  · have e : fo (fE (FL0 ++ [(c, P)])) (sl (FL0 ++ [(c, P)])) BL g = fo (fE FL0) (sl FL0) BL g := by
      rw [eE]
      exact fo_old (q := (c, P)) hI.1 hg hI.1
    rw [e]
    exact List.mem_append_left _ (TL_hd hDf)
  · rw [eE] at hU hA
    refine hK1 BL' m' e' hB' (fun hno => hno _ (UnX_symm hU) hA) (fun rp' hl' => hL' rp' (by rw [eE]; exact Lst_symm hl'))
  · refine hK0 (fun X hX hA => hno X (by rw [eE]; exact UnX_symm hX) (by rw [eE]; exact hA)) m' e'
end MRS
/-- what taking a clause leaves alone in the reference -/
def rmf (m m' : Ob) : Prop := (∀ j, j ≠ 13 → j ≠ 14 → j ≠ 15 → j ≠ 16 → j ≠ 18 → j ≠ 19 → j ≠ 20 → m'.1 j = m.1 j) ∧ (∀ j, j ≠ 15 → j ≠ 16 → j ≠ 19 → j ≠ 20 → j ≠ 21 → j ≠ 22 → j ≠ 23 → j ≠ 24 → m'.2.1 j = m.2.1 j) ∧ m'.2.2 = m.2.2
theorem rmf_trans {a b c : Ob} (h : rmf a b) (g : rmf b c) : rmf a c := ⟨fun j z1 z2 z3 z4 z5 z6 z7 => (g.1 j z1 z2 z3 z4 z5 z6 z7).trans (h.1 j z1 z2 z3 z4 z5 z6 z7), fun j z1 z2 z3 z4 z5 z6 z7 z8 => (g.2.1 j z1 z2 z3 z4 z5 z6 z7 z8).trans (h.2.1 j z1 z2 z3 z4 z5 z6 z7 z8), g.2.2.trans h.2.2⟩
theorem rmf_efr {m m' : Ob} (h : efr m m') : rmf m m' := ⟨fun j _ _ _ _ _ z6 z7 => h.1 j z6 z7, fun j _ _ _ _ _ z6 z7 z8 => h.2.1 j z6 z7 z8, h.2.2⟩
theorem rmf_gfr {m m' : Ob} (h : gfr m m') : rmf m m' := ⟨fun j _ _ _ _ z5 _ _ => h.1 j z5, fun j _ _ z3 z4 z5 _ _ _ => h.2.1 j z3 z4 z5, h.2.2⟩
theorem rmf_sfr {m m' : Ob} (h : sfr m m') : rmf m m' := rmf_efr (efr_s h)
theorem rmf_I {m : Ob} {k : Nat} {v : Int} (h : k = 13 ∨ k = 14 ∨ k = 15 ∨ k = 16 ∨ k = 18) : rmf m (sI m k v) := ⟨fun j z1 z2 z3 z4 z5 _ _ => if_neg (by omega), fun _ _ _ _ _ _ _ _ _ => rfl, rfl⟩
theorem MCl_rmf {m m' : Ob} {c : Int} {p : Part} (h : MCl m c p) (f : rmf m m') : MCl m' c p := by
  unfold MCl
  rw [f.2.1 10 (by decide) (by decide) (by decide) (by decide) (by decide) (by decide) (by decide) (by decide), f.2.1 11 (by decide) (by decide) (by decide) (by decide) (by decide) (by decide) (by decide) (by decide), f.2.1 12 (by decide) (by decide) (by decide) (by decide) (by decide) (by decide) (by decide) (by decide), f.2.1 13 (by decide) (by decide) (by decide) (by decide) (by decide) (by decide) (by decide) (by decide), f.2.2]
  exact h
theorem MW_rmf {FL : List Frm} {m m' : Ob} (h : MW FL m) (f : rmf m m') : MW FL m' := ⟨fun q hq => ⟨MCl_rmf (h.1 q hq).1 f, (h.1 q hq).2⟩, h.2⟩
/-- the path that is written down, the last step first -/
def PA (a15 a16 : Int → Int) : List (Nat × Nat) → Prop
  | [] => True
  | q :: s => a15 (s.length : Int) = (q.1 : Int) ∧ a16 (s.length : Int) = (q.2 : Int) ∧ PA a15 a16 s
theorem PA_eq {a15 a16 b15 b16 : Int → Int} : ∀ {s : List (Nat × Nat)}, PA a15 a16 s → (∀ y, 0 ≤ y → y < (s.length : Int) → b15 y = a15 y ∧ b16 y = a16 y) → PA b15 b16 s
  | [], _, _ => trivial
  | q :: s, h, e => by
    rw [List.length_cons] at e
    obtain ⟨e1, e2⟩ := e (s.length : Int) (by omega) (by omega)
    exact ⟨by rw [e1]; exact h.1, by rw [e2]; exact h.2.1, PA_eq h.2.2 (fun y y0 y1 => e y y0 (by omega))⟩
/-- the reference on a branch -/
def RefL (FL : List Frm) (GL : List (Nat × Nat)) (rp : Nat → Nat) (s : List (Nat × Nat)) (m : Ob) : Prop := ∃ BL, BdOk FL m BL ∧ Inv FL rp BL ∧ GoM FL m GL ∧ PA (m.2.1 15) (m.2.1 16) s
theorem sp_resolveM {FL0 : List Frm} {c g D0 cut : Nat} {P : Part} {rp0 : Nat → Nat} {s rest : List (Nat × Nat)} {AL : List Nat} {m : Ob} {K : Ob → Prop} (hM0 : MW FL0 m) (hR : RefL FL0 rest rp0 s m) (hs : m.1 16 = (s.length : Int)) (hsl : FL0.length = s.length + 1) (h60 : s.length < 60) (hC : Clo (fE FL0) (Rf rp0)) (hV : VR (fE FL0) rp0) (hr : ∀ x, x < (fE FL0).length → rp0 x < (fE FL0).length ∧ rp0 (rp0 x) = rp0 x) (hg : g < (fE FL0).length) (hD : ∀ x, x < (fE FL0).length → Dp (fE FL0) rp0 D0 x) (h120 : (TL (fE FL0) rp0 D0 g).length ≤ 120) (hMC : MCl m (c : Int) P) (hc : c ≤ 24) (hP : PSh P) (hov : ¬ ovP P) (hnm : nmT P.1) (hL : Lo FL0 (m.2.1 19 (rest.length : Int)) (m.2.1 20 (rest.length : Int)) g) (hrl : rest.length ≤ 150) (ht : 0 ≤ m.1 15 ∧ m.1 15 ≤ 1000000) (hA0 : m.1 12 = (AL.length : Int)) (hA8 : AL.length ≤ 8) (hA : ∀ v : Nat, v < AL.length → Lo FL0 (m.2.1 14 (v : Int)) 0 (AL.getD v 0))
    (hout : ((∀ X, UnX (fE FL0 ++ pL P) (Rf (rpN (fE FL0) (pL P) rp0)) g (fE FL0).length X → Acy (fE FL0 ++ pL P) X → False) ∧ ∀ m', rmf m m' → m'.1 13 = 3 → m'.1 15 = m.1 15 + 1 → m'.1 16 = m.1 16 + 1 → PA (m'.2.1 15) (m'.2.1 16) s → K m') ∨ (∃ rp' D, Lst (fE FL0 ++ pL P) (Rf (rpN (fE FL0) (pL P) rp0)) g (fE FL0).length rp' ∧ VR (fE FL0 ++ pL P) rp' ∧ (∀ x, x < (fE FL0 ++ pL P).length → rp' x < (fE FL0 ++ pL P).length ∧ rp' (rp' x) = rp' x) ∧ (∀ x, x < (fE FL0 ++ pL P).length → Dp (fE FL0 ++ pL P) rp' D x) ∧ (∀ q ∈ bd (fE FL0).length P cut ++ rest, q.1 < (fE FL0 ++ pL P).length) ∧ (∀ x ∈ AL, x < (fE FL0).length) ∧ (∀ m', rmf m m' → m'.1 15 = m.1 15 + 1 → m'.1 16 = m.1 16 + 1 → RefL (FL0 ++ [(c, P)]) (bd (fE FL0).length P cut ++ rest) rp' ((c, cut) :: s) m' → (tot (fE FL0 ++ pL P) rp' D ((bd (fE FL0).length P cut ++ rest).map Prod.fst) + tot (fE FL0 ++ pL P) rp' D AL ≤ 120 → m'.1 13 = 1 → K m') ∧ (120 < tot (fE FL0 ++ pL P) rp' D ((bd (fE FL0).length P cut ++ rest).map Prod.fst) + tot (fE FL0 ++ pL P) rp' D AL → m'.1 13 = 4 → m'.1 14 = 4 → K m')))) : wp_M_resolve (c : Int) (cut : Int) m K := by
  obtain ⟨BL, hB, hI, hG, hPA⟩ := hR
  obtain ⟨hG1, hG2⟩ := hG
  have h8 := (ov_40 hov).2.2.1
  have eE : fE (FL0 ++ [(c, P)]) = fE FL0 ++ pL P := fE_snoc FL0 (c, P)
  refine ⟨⟨by omega, by omega⟩, ⟨by omega, by omega⟩, ⟨by omega, by omega⟩, ⟨by omega, by omega⟩, ⟨by omega, by omega⟩, ⟨by omega, by omega⟩, ?_⟩
  have ef : m.1 16 + 1 = ((s.length + 1 : Nat) : Int) := by omega
  have r1 : rmf m (sI (sI (sA (sA m 15 (m.1 16) (c : Int)) 16 (m.1 16) (cut : Int)) 16 (m.1 16 + 1)) 15 (m.1 15 + 1)) := ⟨fun j z1 z2 z3 z4 z5 z6 z7 => (if_neg z3).trans (if_neg z4), fun j z1 z2 _ _ _ _ _ _ => (if_neg z2).trans (if_neg z1), rfl⟩
  rw [ef] at r1 ⊢
  refine sp_clear (by omega) (fun m1 c1 c2 c3 c4 c5 => ⟨⟨by omega, by omega⟩, ?_⟩)
  have r2 : rmf m m1 := rmf_trans r1 ⟨fun j _ _ _ _ _ _ _ => by rw [c1], fun j _ _ _ _ _ z6 _ _ => c2 j z6, c3⟩
  have e16 : m1.1 16 = (FL0.length : Int) := by rw [c1, hsl]; rfl
  have e15 : m1.1 15 = m.1 15 + 1 := by rw [c1]; rfl
  rw [e16, hG2]
  have hM1 : MW (FL0 ++ [(c, P)]) m1 := ⟨fun q hq => by
    rcases List.mem_append.mp hq with w | w
    · exact ⟨MCl_rmf (hM0.1 q w).1 r2, (hM0.1 q w).2⟩
    · rw [List.mem_singleton.mp w]
      exact ⟨MCl_rmf hMC r2, hc, hP, hov⟩, by rw [List.length_append, List.length_singleton]; omega⟩
  have hB1 : BdOk (FL0 ++ [(c, P)]) m1 BL := by
    refine BdOk_new (m := m) hB (fun y hy => ?_) ?_ (fun v hv => ?_)
    · rw [c4 y (by omega)]; rfl
    · rw [c2 23 (by decide)]; rfl
    · rw [hsl]; exact c5 v hv
  have hPA1 : PA (m1.2.1 15) (m1.2.1 16) ((c, cut) :: s) := by
    rw [c2 15 (by decide), c2 16 (by decide)]
    refine ⟨?_, ?_, PA_eq hPA (fun y y0 y1 => ⟨?_, ?_⟩)⟩
    · show updI (m.2.1 15) (m.1 16) (c : Int) (s.length : Int) = _
      unfold updI; rw [if_pos hs.symm]
    · show updI (m.2.1 16) (m.1 16) (cut : Int) (s.length : Int) = _
      unfold updI; rw [if_pos hs.symm]
    · show updI (m.2.1 15) (m.1 16) (c : Int) y = _
      unfold updI; rw [if_neg (by omega)]
    · show updI (m.2.1 16) (m.1 16) (cut : Int) y = _
      unfold updI; rw [if_neg (by omega)]
  have hmg : MGo (FL0 ++ [(c, P)]) (m1.2.1 19) (m1.2.1 20) (m1.2.1 21) rest := by
    rw [c2 19 (by decide), c2 20 (by decide), c2 21 (by decide)]
    exact MGo_eq (fun _ _ _ h => Lo_mono h) hG1 (fun _ _ _ => ⟨rfl, rfl, rfl⟩)
  have e18 : m1.1 18 = (rest.length : Int) := by rw [c1]; exact hG2
  refine sp_eqNew hM0 hB hI hC hV hr hg hD h120 hP hov hnm hM1 hB1 hL (fun BL' m2 f2 hB2 hex hIn => ⟨fun _ => ?_, fun z => absurd z (by decide)⟩) (fun hno m2 f2 => ⟨fun z => absurd rfl z, fun _ => ?_⟩)
  · rcases hout with ⟨hno, -⟩ | ⟨rp', D, hLst, hV', hr', hD', hGl, hALl, hK⟩
    · exact absurd hno (fun z => hex z)
    · have r3 := rmf_trans r2 (rmf_efr f2)
      have e16' : m2.1 16 = (FL0.length : Int) := (f2.1 16 (by decide) (by decide)).trans e16
      rw [e16']
      have r4 : rmf m (sI m2 13 1) := rmf_trans r3 (rmf_I (Or.inl rfl))
      refine sp_prepend (FL0 := FL0) (GL := rest) (MCl_rmf hMC r4) hc hP hov ⟨?_, ?_⟩ (by omega) (fun m4 g4 hG4 => ?_)
      · show MGo _ (m2.2.1 19) (m2.2.1 20) (m2.2.1 21) rest
        rw [f2.2.1 19 (by decide) (by decide) (by decide), f2.2.1 20 (by decide) (by decide) (by decide), f2.2.1 21 (by decide) (by decide) (by decide)]
        exact hmg
      · exact (f2.1 18 (by decide) (by decide)).trans e18
      · have r5 := rmf_trans r4 (rmf_gfr g4)
        have hB4 : BdOk (FL0 ++ [(c, P)]) m4 BL' := by
          unfold BdOk
          rw [g4.2.1 22 (by decide) (by decide) (by decide), g4.2.1 23 (by decide) (by decide) (by decide)]
          exact hB2
        have hM4 : MW (FL0 ++ [(c, P)]) m4 := MW_rmf hM1 (rmf_trans (rmf_trans (rmf_efr f2) (rmf_I (Or.inl rfl))) (rmf_gfr g4))
        have hI4 := hIn rp' hLst
        have e15' : m4.1 15 = m.1 15 + 1 := (g4.1 15 (by decide)).trans ((f2.1 15 (by decide) (by decide)).trans e15)
        have e16'' : m4.1 16 = m.1 16 + 1 := by
          have : m4.1 16 = (FL0.length : Int) := (g4.1 16 (by decide)).trans e16'
          omega
        have e13 : m4.1 13 = 1 := (g4.1 13 (by decide)).trans rfl
        have hPA4 : PA (m4.2.1 15) (m4.2.1 16) ((c, cut) :: s) := by
          rw [g4.2.1 15 (by decide) (by decide) (by decide), g4.2.1 16 (by decide) (by decide) (by decide)]
          show PA (m2.2.1 15) (m2.2.1 16) _
          rw [f2.2.1 15 (by decide) (by decide) (by decide), f2.2.1 16 (by decide) (by decide) (by decide)]
          exact hPA1
        have hC' : Clo (fE (FL0 ++ [(c, P)])) (Rf rp') := by rw [eE]; exact hLst.1.2.1
        have hWE : WE (fE (FL0 ++ [(c, P)])) := fE_WE hM4
        have hlen := fun (x : Nat) (hx : x < (fE FL0 ++ pL P).length) => TL_len_eq hWE hI4 hC' (by rw [eE]; exact hV') (by rw [eE]; exact hr') D x x (by rw [eE]; exact hx) (by rw [eE]; exact hx) rfl
        have etot : ∀ xs : List Nat, (∀ x ∈ xs, x < (fE FL0 ++ pL P).length) → tot (fE (FL0 ++ [(c, P)])) (fo (fE (FL0 ++ [(c, P)])) (sl (FL0 ++ [(c, P)])) BL') D xs = tot (fE FL0 ++ pL P) rp' D xs := fun xs hxs => by
          unfold tot
          refine congrArg List.sum (List.map_congr_left (fun x hx => ?_))
          have := (hlen x (hxs x hx)).1
          rw [← this, eE]
        have hAL' : ∀ x ∈ AL, x < (fE FL0 ++ pL P).length := fun x hx => by rw [List.length_append]; have := hALl x hx; omega
        have hGL' : ∀ x ∈ (bd (fE FL0).length P cut ++ rest).map Prod.fst, x < (fE FL0 ++ pL P).length := fun x hx => by
          obtain ⟨q, hq, e⟩ := List.mem_map.mp hx
          subst e
          exact hGl q hq
        refine sp_large (D := D) (AL := AL) hM4 hB4 (fun x hx => (hlen x (by rw [← eE]; exact hx)).2 (by rw [eE]; exact hD' x (by rw [← eE]; exact hx))) hG4 (by rw [List.length_append, bd_len]; omega) ?_ hA8 (fun v hv => ?_) (fun hbig m5 s5 => ⟨fun z => absurd z (by decide), fun _ => ?_⟩) (fun hsm m5 s5 => ⟨fun _ => ?_, fun z => absurd rfl z⟩)
        · rw [r5.1 12 (by decide) (by decide) (by decide) (by decide) (by decide) (by decide) (by decide)]; exact hA0
        · rw [r5.2.1 14 (by decide) (by decide) (by decide) (by decide) (by decide) (by decide) (by decide) (by decide)]
          exact Lo_mono (hA v hv)
        · rw [etot _ hGL', etot _ hAL'] at hbig
          have r6 : rmf m (sI (sI m5 13 4) 14 4) := rmf_trans (rmf_trans r5 (rmf_sfr s5)) (rmf_trans (rmf_I (Or.inl rfl)) (rmf_I (Or.inr (Or.inl rfl))))
          refine (hK _ r6 ?_ ?_ ⟨BL', ?_, hI4, ⟨?_, ?_⟩, ?_⟩).2 hbig rfl rfl
          · exact (s5.1 15 (by decide) (by decide)).trans e15'
          · exact (s5.1 16 (by decide) (by decide)).trans e16''
          · have hb5 := BdOk_sfr hB4 s5
            exact hb5
          · show MGo _ (m5.2.1 19) (m5.2.1 20) (m5.2.1 21) _
            rw [s5.2.1 19 (by decide), s5.2.1 20 (by decide), s5.2.1 21 (by decide)]
            exact hG4.1
          · exact (s5.1 18 (by decide) (by decide)).trans hG4.2
          · show PA (m5.2.1 15) (m5.2.1 16) _
            rw [s5.2.1 15 (by decide), s5.2.1 16 (by decide)]
            exact hPA4
        · rw [etot _ hGL', etot _ hAL'] at hsm
          refine (hK m5 (rmf_trans r5 (rmf_sfr s5)) ?_ ?_ ⟨BL', BdOk_sfr hB4 s5, hI4, ⟨?_, ?_⟩, ?_⟩).1 hsm ?_
          · exact (s5.1 15 (by decide) (by decide)).trans e15'
          · exact (s5.1 16 (by decide) (by decide)).trans e16''
          · rw [s5.2.1 19 (by decide), s5.2.1 20 (by decide), s5.2.1 21 (by decide)]
            exact hG4.1
          · exact (s5.1 18 (by decide) (by decide)).trans hG4.2
          · rw [s5.2.1 15 (by decide), s5.2.1 16 (by decide)]
            exact hPA4
          · exact (s5.1 13 (by decide) (by decide)).trans e13
  · rcases hout with ⟨-, hK⟩ | ⟨rp', D, hLst, -⟩
    · refine hK _ (rmf_trans (rmf_trans r2 (rmf_efr f2)) (rmf_I (Or.inl rfl))) rfl ?_ ?_ ?_
      · exact (f2.1 15 (by decide) (by decide)).trans e15
      · have : m2.1 16 = (FL0.length : Int) := (f2.1 16 (by decide) (by decide)).trans e16
        show m2.1 16 = _
        omega
      · show PA (m2.2.1 15) (m2.2.1 16) s
        rw [f2.2.1 15 (by decide) (by decide) (by decide), f2.2.1 16 (by decide) (by decide) (by decide)]
        exact hPA1.2.2
    · exact absurd hLst.2.1 (fun hA => hno _ hLst.1 hA)
