/-! the search: a branch, and how the reference comes back to it -/
def PathOk (Cs : List Part) (Q : Part) : List (Nat × Nat) → List Frm → List (Nat × Nat) → (Nat → Nat) → Prop
  | [], FL, GL, rp => FL = [(24, Q)] ∧ GL = bd 0 Q 0 ∧ rp = rpN [] (pL Q) (fun x => x) ∧ Good (fE FL) GL rp
  | q :: s, FL, GL, rp => ∃ (FL0 : List Frm) (GL0 : List (Nat × Nat)) (rp0 : Nat → Nat) (g k : Nat) (rest : List (Nat × Nat)), PathOk Cs Q s FL0 GL0 rp0 ∧ stripG (fE FL0) GL0 = (g, k) :: rest ∧ q.1 < Cs.length ∧ FL = FL0 ++ [(q.1, Cs.getD q.1 ([], []))] ∧ GL = bd (fE FL0).length (Cs.getD q.1 ([], [])) q.2 ++ rest ∧ Lst (fE FL) (Rf (rpN (fE FL0) (pL (Cs.getD q.1 ([], []))) rp0)) g (fE FL0).length rp ∧ Good (fE FL) GL rp
/-- what stands still while a search goes on -/
def Stc (NL : List Nat) (Cs : List Part) (Q : Part) (AL : List Nat) (tx : Ob) (m : Ob) : Prop := (∀ c : Nat, c < Cs.length → MCl m (c : Int) (Cs.getD c ([], []))) ∧ MCl m 24 Q ∧ Cs.length ≤ 24 ∧ (∀ P ∈ Cs, ClOk NL P ∧ nmT P.1) ∧ ClOk NL Q ∧ m.1 10 = (Cs.length : Int) ∧ m.1 12 = (AL.length : Int) ∧ AL.length ≤ 8 ∧ (∀ v : Nat, v < AL.length → Lo [(24, Q)] (m.2.1 14 (v : Int)) 0 (AL.getD v 0)) ∧ (∀ x ∈ AL, x < (pL Q).length ∧ isV (pL Q) x) ∧ RText tx m ∧ m.1 11 = (NL.length : Int) ∧ arN (m.2.2.2 3) NL
theorem Stc_rmf {NL : List Nat} {Cs : List Part} {Q : Part} {AL : List Nat} {tx : Ob} {m m' : Ob} (h : Stc NL Cs Q AL tx m) (f : rmf m m') : Stc NL Cs Q AL tx m' := by
  obtain ⟨h1, h2, h3, h4, h5, h6, h7, h8, h9, h10, h11, h12, h13⟩ := h
  refine ⟨fun c hc => MCl_rmf (h1 c hc) f, MCl_rmf h2 f, h3, h4, h5, ?_, ?_, h8, fun v hv => ?_, h10, ?_, ?_, ?_⟩
  · rw [f.1 10 (by decide) (by decide) (by decide) (by decide) (by decide) (by decide) (by decide)]; exact h6
  · rw [f.1 12 (by decide) (by decide) (by decide) (by decide) (by decide) (by decide) (by decide)]; exact h7
  · rw [f.2.1 14 (by decide) (by decide) (by decide) (by decide) (by decide) (by decide) (by decide) (by decide)]; exact h9 v hv
  · unfold RText
    rw [f.1 0 (by decide) (by decide) (by decide) (by decide) (by decide) (by decide) (by decide), f.2.1 0 (by decide) (by decide) (by decide) (by decide) (by decide) (by decide) (by decide) (by decide)]; exact h11
  · rw [f.1 11 (by decide) (by decide) (by decide) (by decide) (by decide) (by decide) (by decide)]; exact h12
  · rw [f.2.2]; exact h13
section PTH
variable {NL : List Nat} {Cs : List Part} {Q : Part} {AL : List Nat} {tx : Ob}
theorem Path_fr : ∀ {s : List (Nat × Nat)} {FL : List Frm} {GL : List (Nat × Nat)} {rp : Nat → Nat}, PathOk Cs Q s FL GL rp → (∀ q ∈ FL, q = (24, Q) ∨ (q.1 < Cs.length ∧ q.2 = Cs.getD q.1 ([], []))) ∧ FL.length = s.length + 1 ∧ (∃ T, FL = (24, Q) :: T) ∧ Good (fE FL) GL rp
  | [], FL, GL, rp, h => by
    obtain ⟨rfl, h2, h3, h4⟩ := h
    exact ⟨fun q hq => Or.inl (List.mem_singleton.mp hq), rfl, ⟨[], rfl⟩, h4⟩
  | q :: s, FL, GL, rp, h => by
    obtain ⟨FL0, GL0, rp0, g, k, rest, h1, h2, h3, rfl, h5, h6, h7⟩ := h
    obtain ⟨i1, i2, ⟨T, i3⟩, i4⟩ := Path_fr h1
    refine ⟨fun r hr => ?_, by rw [List.length_append, List.length_singleton, i2, List.length_cons], ⟨T ++ [(q.1, Cs.getD q.1 ([], []))], by rw [i3]; rfl⟩, h7⟩
    rcases List.mem_append.mp hr with w | w
    · exact i1 r w
    · rw [List.mem_singleton.mp w]; exact Or.inr ⟨h3, rfl⟩
theorem Cs_mem {c : Nat} (h : c < Cs.length) : Cs.getD c ([], []) ∈ Cs := by
  obtain ⟨A, C, hA, -⟩ := getD_split h
  have : Cs.getD c ([], []) ∈ A ++ Cs.getD c ([], []) :: C := List.mem_append_right _ List.mem_cons_self
  rw [← hA] at this
  exact this
theorem MW_path {m : Ob} (hS : Stc NL Cs Q AL tx m) {s : List (Nat × Nat)} {FL : List Frm} {GL : List (Nat × Nat)} {rp : Nat → Nat} (h : PathOk Cs Q s FL GL rp) (hs : s.length ≤ 60) : MW FL m := by
  obtain ⟨h1, h2, h3, h4, h5, -⟩ := hS
  obtain ⟨i1, i2, -, -⟩ := Path_fr h
  refine ⟨fun q hq => ?_, by omega⟩
  rcases i1 q hq with e | ⟨e1, e2⟩
  · rw [e]; exact ⟨h2, Nat.le_refl _, h5.1, h5.2.1⟩
  · rw [e2]
    have := h4 _ (Cs_mem e1)
    exact ⟨h1 q.1 e1, by omega, this.1.1, this.1.2.1⟩
theorem Path_ok {m : Ob} (hS : Stc NL Cs Q AL tx m) {s : List (Nat × Nat)} {FL : List Frm} {GL : List (Nat × Nat)} {rp : Nat → Nat} (h : PathOk Cs Q s FL GL rp) : OkE NL (fE FL) := by
  have key : ∀ (T : List Frm), (∀ q ∈ T, q = (24, Q) ∨ (q.1 < Cs.length ∧ q.2 = Cs.getD q.1 ([], []))) → OkE NL (fE T) := by
    intro T
    induction T with
    | nil => intro _ x hx; exact absurd hx (Nat.not_lt_zero _)
    | cons q T ih =>
      intro hq
      rw [fE_cons]
      refine OkE_app ?_ (ih (fun r hr => hq r (List.mem_cons_of_mem _ hr)))
      rcases hq q List.mem_cons_self with e | ⟨e1, e2⟩
      · rw [e]; exact OkE_P hS.2.2.2.2.1
      · rw [e2]; exact OkE_P (hS.2.2.2.1 _ (Cs_mem e1)).1
  exact key FL (Path_fr h).1
theorem Path_len {m : Ob} (hS : Stc NL Cs Q AL tx m) {s : List (Nat × Nat)} {FL : List Frm} {GL : List (Nat × Nat)} {rp : Nat → Nat} (h : PathOk Cs Q s FL GL rp) : (fE FL).length ≤ 40 * FL.length := by
  have key : ∀ (T : List Frm), (∀ q ∈ T, q = (24, Q) ∨ (q.1 < Cs.length ∧ q.2 = Cs.getD q.1 ([], []))) → (fE T).length ≤ 40 * T.length := by
    intro T
    induction T with
    | nil => intro _; exact Nat.le_refl _
    | cons q T ih =>
      intro hq
      rw [fE_cons, List.length_append, List.length_cons]
      have h1 := ih (fun r hr => hq r (List.mem_cons_of_mem _ hr))
      have h2 : (pL q.2).length ≤ 40 := by
        rcases hq q List.mem_cons_self with e | ⟨e1, e2⟩
        · rw [e]; exact (ov_40 hS.2.2.2.2.1.2.1).1
        · rw [e2]; exact (ov_40 (hS.2.2.2.1 _ (Cs_mem e1)).1.2.1).1
      omega
  exact key FL (Path_fr h).1
theorem Lo_first {T : List Frm} {p f : Int} {x : Nat} (h : Lo [(24, Q)] p f x) : Lo ((24, Q) :: T) p f x := by
  obtain ⟨A, c, P, C, j, h1, h2, h3, h4, h5⟩ := h
  exact ⟨A, c, P, C ++ T, j, by rw [← List.cons_append, ← List.append_assoc, ← h1]; rfl, h2, h3, h4, h5⟩
end PTH
/-- what coming back leaves alone -/
def amf (m m' : Ob) : Prop := (∀ j, j ≠ 16 → j ≠ 18 → j ≠ 19 → j ≠ 20 → m'.1 j = m.1 j) ∧ (∀ j, j ≠ 19 → j ≠ 20 → j ≠ 21 → j ≠ 22 → j ≠ 23 → j ≠ 24 → m'.2.1 j = m.2.1 j) ∧ m'.2.2 = m.2.2
theorem amf_trans {a b c : Ob} (h : amf a b) (g : amf b c) : amf a c := ⟨fun j z1 z2 z3 z4 => (g.1 j z1 z2 z3 z4).trans (h.1 j z1 z2 z3 z4), fun j z1 z2 z3 z4 z5 z6 => (g.2.1 j z1 z2 z3 z4 z5 z6).trans (h.2.1 j z1 z2 z3 z4 z5 z6), g.2.2.trans h.2.2⟩
theorem amf_efr {m m' : Ob} (h : efr m m') : amf m m' := ⟨fun j _ _ z6 z7 => h.1 j z6 z7, fun j _ _ _ z6 z7 z8 => h.2.1 j z6 z7 z8, h.2.2⟩
theorem amf_gfr {m m' : Ob} (h : gfr m m') : amf m m' := ⟨fun j _ z5 _ _ => h.1 j z5, fun j z3 z4 z5 _ _ _ => h.2.1 j z3 z4 z5, h.2.2⟩
theorem rmf_amf {m m' : Ob} (h : amf m m') : rmf m m' := ⟨fun j _ _ _ z4 z5 z6 z7 => h.1 j z4 z5 z6 z7, fun j _ _ z3 z4 z5 z6 z7 z8 => h.2.1 j z3 z4 z5 z6 z7 z8, h.2.2⟩
section AGN
variable {NL : List Nat} {Cs : List Part} {Q : Part} {AL : List Nat} {tx : Ob}
/-- the question's branch, anew -/
theorem sp_begin {m : Ob} {K : Ob → Prop} (hS : Stc NL Cs Q AL tx m) (hK : ∀ m', amf m m' → m'.1 16 = 0 → RefL [(24, Q)] (bd 0 Q 0) (rpN [] (pL Q) (fun x => x)) [] m' → K m') : wp_M_begin m K := by
  have hQ := hS.2.2.2.2.1
  refine sp_clear (f := 0) (m := sI (sI m 18 0) 16 0) (by decide) (fun m1 c1 c2 c3 c4 c5 => ?_)
  have a1 : amf m m1 := ⟨fun j z1 z2 _ _ => by rw [c1]; exact (if_neg z1).trans (if_neg z2), fun j _ _ _ z4 _ _ => c2 j z4, c3⟩
  have hMC : MCl m1 24 Q := MCl_rmf hS.2.1 (rmf_amf a1)
  have hB : BdOk ([] ++ [(24, Q)]) m1 [] := by
    refine BdOk_new (FL := []) (m := m1) ⟨trivial, fun r hr => absurd hr (List.not_mem_nil), fun v hv => absurd hv (Nat.not_lt_zero _)⟩ (fun _ _ => rfl) rfl (fun v hv => ?_)
    exact c5 v hv
  have hI : Inv ([] ++ [(24, Q)]) (rpN (fE []) (pL Q) (fun x => x)) [] := Inv_new (q := (24, Q)) ⟨0, rfl⟩ (WE_P hQ.1) (fun x hx => hx) (fun x hx => absurd hx (Nat.not_lt_zero _)) ⟨trivial, fun r hr => absurd hr (List.not_mem_nil), fun x hx => absurd hx (Nat.not_lt_zero _), fun x _ hx => absurd hx (Nat.not_lt_zero _), ⟨0, fun x hx => absurd hx (Nat.not_lt_zero _)⟩, fun x _ hx => absurd hx (Nat.not_lt_zero _)⟩
  refine sp_prepend (FL0 := []) (c := 24) (P := Q) (GL := []) (cut := 0) hMC (Nat.le_refl _) hQ.1 hQ.2.1 ⟨trivial, by rw [c1]; rfl⟩ (by decide) (fun m2 g2 hG2 => hK m2 (amf_trans a1 (amf_gfr g2)) ?_ ⟨[], ?_, hI, ?_, trivial⟩)
  · rw [g2.1 16 (by decide), c1]; rfl
  · have hb : BdOk ([] ++ [(24, Q)]) m2 [] := by
      unfold BdOk
      rw [g2.2.1 22 (by decide) (by decide) (by decide), g2.2.1 23 (by decide) (by decide) (by decide)]
      exact hB
    exact hb
  · rw [List.append_nil] at hG2
    exact hG2
theorem again_loop {len : Nat} (hlen : len ≤ 60) : ∀ {s : List (Nat × Nat)} {FL : List Frm} {GL : List (Nat × Nat)} {rp : Nat → Nat}, PathOk Cs Q s FL GL rp → s.length ≤ len → ∀ {m0 : Ob} {K : Ob → Prop}, Stc NL Cs Q AL tx m0 → PA (m0.2.1 15) (m0.2.1 16) s → (∀ m', amf m0 m' → RefL FL GL rp s m' → ∀ fuel : Nat, len < fuel + s.length → M_again_6 fuel (len : Int) (s.length : Int) m' K) → ∀ m1, amf m0 m1 → RefL [(24, Q)] (bd 0 Q 0) (rpN [] (pL Q) (fun x => x)) [] m1 → ∀ fuel : Nat, len < fuel → M_again_6 fuel (len : Int) 0 m1 K
  | [], FL, GL, rp, h, hs, m0, K, hS, hPA, hK, m1, a1, hR, fuel, hf => by
    obtain ⟨rfl, rfl, rfl, -⟩ := h
    exact hK m1 a1 hR fuel hf
  | q :: s, FL, GL, rp, h, hs, m0, K, hS, hPA, hK, m1, a1, hR, fuel, hf => by
    obtain ⟨c, cut⟩ := q
    obtain ⟨FL0, GL0, rp0, g, k, rest, h1, h2, h3, rfl, h5, h6, h7⟩ := h
    have h3 : c < Cs.length := h3
    have hs : s.length + 1 ≤ len := hs
    obtain ⟨f1, f2, f3, ⟨⟨D0, hD0, hGl⟩, gC, gV, gA, gr, g120, gn⟩⟩ := Path_fr h1
    have hst := stripG_le (fE FL0) GL0
    rw [h2, List.length_cons] at hst
    have hmem : (g, k) ∈ GL0 := by
      have : ∀ l : List (Nat × Nat), ∀ r ∈ stripG (fE FL0) l, r ∈ l := by
        intro l
        induction l with
        | nil => intro r hr; exact hr
        | cons y l ih =>
          intro r hr
          rcases sG_dec (fE FL0) y.1 with w | w
          · rw [stripG_cut w] at hr; exact List.mem_cons_of_mem _ (ih r hr)
          · rw [stripG_id w] at hr; exact hr
      exact this GL0 _ (by rw [h2]; exact List.mem_cons_self)
    obtain ⟨hg, hg120⟩ := hGl _ hmem
    have hg : g < (fE FL0).length := hg
    have hcl := hS.2.2.2.1 _ (Cs_mem h3)
    refine again_loop hlen h1 (by omega) (m0 := m0) (K := K) hS hPA.2.2 (fun m' a' hR' fuel' hf' => ?_) m1 a1 hR fuel hf
    obtain ⟨BL, hB, hI, hG, hPA'⟩ := hR'
    have hS' := Stc_rmf hS (rmf_amf a')
    have hM' := MW_path hS' h1 (by omega)
    cases fuel' with
    | zero => omega
    | succ n =>
      refine ⟨fun z => by omega, fun _ => ?_⟩
      refine sp_strip (fun v => MW_rmf hM' (rmf_I (Or.inr (Or.inr (Or.inr (Or.inr rfl)))))) hG (by omega) (fun m3 hG3 e31 e32 => ?_)
      rw [h2] at hG3
      obtain ⟨⟨q1, q2, q3⟩, q4⟩ := hG3
      rw [List.length_cons] at q4
      have a3 : amf m' m3 := ⟨fun j _ z2 _ _ => e31 j z2, fun j _ _ _ _ _ _ => by rw [e32], by rw [e32]⟩
      have e18 : m3.1 18 - 1 = (rest.length : Int) := by omega
      rw [e18]
      refine ⟨⟨by omega, by omega⟩, ⟨by omega, by omega⟩, ?_⟩
      rw [show (s.length : Int) + 1 = ((s.length + 1 : Nat) : Int) by omega]
      refine sp_clear (f := s.length + 1) (m := sI m3 18 (rest.length : Int)) (by omega) (fun m4 c1 c2 c3 c4 c5 => ?_)
      have a4 : amf m3 m4 := ⟨fun j _ z2 _ _ => by rw [c1]; exact if_neg z2, fun j _ _ _ z4 _ _ => c2 j z4, c3⟩
      have a04 : amf m0 m4 := amf_trans (amf_trans a' a3) a4
      have hS4 := Stc_rmf hS (rmf_amf a04)
      have e15 : m4.2.1 15 (s.length : Int) = (c : Int) := by rw [a04.2.1 15 (by decide) (by decide) (by decide) (by decide) (by decide) (by decide)]; exact hPA.1
      have e184 : m4.1 18 = (rest.length : Int) := by rw [c1]; rfl
      rw [e15, e184]
      have hc24 : c ≤ 24 := by have := hS.2.2.1; omega
      refine ⟨⟨by omega, by omega⟩, ⟨by omega, by omega⟩, ⟨by omega, by omega⟩, ⟨by omega, by omega⟩, ⟨by omega, by omega⟩, ?_⟩
      have hM4 : MW (FL0 ++ [(c, Cs.getD c ([], []))]) m4 := by
        refine ⟨fun r hr => ?_, by rw [List.length_append, List.length_singleton]; omega⟩
        rcases List.mem_append.mp hr with w | w
        · exact (MW_path hS4 h1 (by omega)).1 r w
        · rw [List.mem_singleton.mp w]
          exact ⟨hS4.1 c h3, hc24, hcl.1.1, hcl.1.2.1⟩
      have hB3 : BdOk FL0 m3 BL := by
        unfold BdOk
        rw [e32]
        exact hB
      have hB4 : BdOk (FL0 ++ [(c, Cs.getD c ([], []))]) m4 BL := by
        refine BdOk_new hB3 (fun y hy => ?_) ?_ (fun v hv => ?_)
        · rw [c4 y (by omega)]; rfl
        · rw [c2 23 (by decide)]; rfl
        · rw [f2]; exact c5 v hv
      have hL4 : Lo FL0 (m4.2.1 19 (rest.length : Int)) (m4.2.1 20 (rest.length : Int)) g := by
        rw [c2 19 (by decide), c2 20 (by decide)]
        exact q1
      rw [show ((s.length + 1 : Nat) : Int) = (FL0.length : Int) by omega]
      have hM3 : MW FL0 m3 := MW_rmf hM' (rmf_amf a3)
      refine sp_eqNew hM3 hB3 hI gC gV gr hg hD0 hg120 hcl.1.1 hcl.1.2.1 hcl.2 hM4 hB4 hL4 (fun BL' m5 f5 hB5 hex hIn => ?_) (fun hno m5 f5 => ?_)
      · have a5 := amf_trans a04 (amf_efr f5)
        have e15' : m5.2.1 15 (s.length : Int) = (c : Int) := by rw [a5.2.1 15 (by decide) (by decide) (by decide) (by decide) (by decide) (by decide)]; exact hPA.1
        have e16' : m5.2.1 16 (s.length : Int) = (cut : Int) := by rw [a5.2.1 16 (by decide) (by decide) (by decide) (by decide) (by decide) (by decide)]; exact hPA.2.1
        refine ⟨⟨by omega, by omega⟩, ⟨by omega, by omega⟩, ⟨by omega, by omega⟩, ?_⟩
        rw [e15', e16']
        refine sp_prepend (FL0 := FL0) (GL := rest) (MCl_rmf (hS.1 c h3) (rmf_amf a5)) hc24 hcl.1.1 hcl.1.2.1 ⟨?_, ?_⟩ (by omega) (fun m7 g7 hG7 => ⟨⟨by omega, by omega⟩, ?_⟩)
        · rw [f5.2.1 19 (by decide) (by decide) (by decide), f5.2.1 20 (by decide) (by decide) (by decide), f5.2.1 21 (by decide) (by decide) (by decide), c2 19 (by decide), c2 20 (by decide), c2 21 (by decide)]
          exact MGo_eq (fun _ _ _ h => Lo_mono h) q3 (fun _ _ _ => ⟨rfl, rfl, rfl⟩)
        · exact (f5.1 18 (by decide) (by decide)).trans e184
        · have a7 := amf_trans a5 (amf_gfr g7)
          have := hK m7 a7 ⟨BL', ?_, hIn rp (by rw [← fE_snoc FL0 (c, Cs.getD c ([], []))]; exact h6), by rw [h5]; exact hG7, ?_⟩ n (by show len < n + (s.length + 1); omega)
          · rw [show (FL0.length : Int) = (((c, cut) :: s).length : Int) by rw [f2]; rfl]
            exact this
          · unfold BdOk
            rw [g7.2.1 22 (by decide) (by decide) (by decide), g7.2.1 23 (by decide) (by decide) (by decide)]
            exact hB5
          · rw [a7.2.1 15 (by decide) (by decide) (by decide) (by decide) (by decide) (by decide), a7.2.1 16 (by decide) (by decide) (by decide) (by decide) (by decide) (by decide)]
            exact hPA
      · rw [fE_snoc FL0 (c, Cs.getD c ([], []))] at h6
        exact absurd h6.2.1 (fun hA => hno _ h6.1 hA)
/-- back to a branch -/
theorem sp_again {s : List (Nat × Nat)} {FL : List Frm} {GL : List (Nat × Nat)} {rp : Nat → Nat} {m : Ob} {K : Ob → Prop} (h : PathOk Cs Q s FL GL rp) (hs : s.length ≤ 60) (hS : Stc NL Cs Q AL tx m) (hPA : PA (m.2.1 15) (m.2.1 16) s) (hK : ∀ m', amf m m' → m'.1 16 = (s.length : Int) → RefL FL (stripG (fE FL) GL) rp s m' → K m') : wp_M_again (s.length : Int) m K := by
  refine sp_begin hS (fun m1 a1 e16 hR => ⟨s.length + 1, ?_⟩)
  refine again_loop hs h (Nat.le_refl _) (m0 := m) hS hPA (fun m' a' hR' fuel hf => ?_) m1 a1 hR _ (by omega)
  cases fuel with
  | zero => omega
  | succ n =>
    refine ⟨fun _ => ?_, fun z => by omega⟩
    obtain ⟨BL, hB, hI, hG, hPA'⟩ := hR'
    have hM' := MW_path (Stc_rmf hS (rmf_amf a')) h hs
    have hg120 := (Path_fr h).2.2.2.2.2.2.2.2.1
    refine sp_strip (m := sI m' 16 (s.length : Int)) (fun v => MW_rmf hM' (rmf_trans (rmf_I (Or.inr (Or.inr (Or.inr (Or.inl rfl))))) (rmf_I (Or.inr (Or.inr (Or.inr (Or.inr rfl))))))) (GL := GL) hG (by omega) (fun m3 hG3 e31 e32 => hK m3 (amf_trans a' ⟨fun j z1 z2 _ _ => (e31 j z2).trans (if_neg z1), fun j _ _ _ _ _ _ => by rw [e32]; rfl, by rw [e32]; rfl⟩) (e31 16 (by decide)) ⟨BL, ?_, hI, hG3, ?_⟩)
    · unfold BdOk
      rw [e32]
      exact hB
    · rw [e32]
      exact hPA'
end AGN
