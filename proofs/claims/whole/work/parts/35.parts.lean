/-! the pure part: the parts of a text; the class's endPart -/
abbrev Part : Type := List Sy × List (List Sy)
def pL (p : Part) : List Sy := p.1 ++ p.2.flatten
def psL (Ps : List Part) : List Sy := (Ps.map pL).flatten
theorem psL_snoc (Ps : List Part) (p : Part) : psL (Ps ++ [p]) = psL Ps ++ pL p := by
  unfold psL
  rw [List.map_append, List.flatten_append, List.map_singleton, List.flatten_cons, List.flatten_nil, List.append_nil]
theorem psL_app (A C : List Part) : psL (A ++ C) = psL A ++ psL C := by
  unfold psL
  rw [List.map_append, List.flatten_append]
theorem psL_cons (p : Part) (C : List Part) : psL (p :: C) = pL p ++ psL C := rfl
def ovP (p : Part) : Prop := 40 < (pL p).length ∨ 8 < (vM (pL p)).length ∨ 8 < p.2.length ∨ ∃ x ∈ pL p, 4 < x.1
def OV (Ps : List Part) : Prop := 24 < Ps.length ∨ ∃ p ∈ Ps, ovP p
/-- the sizes of the goals from x on -/
def GZ (sz : Int → Int) : List (List Sy) → Int → Prop
  | [], _ => True
  | G :: Gs, x => sz x = (G.length : Int) ∧ GZ sz Gs (x + (G.length : Int))
def PZ (sym sz : Int → Int) (B : Int) (p : Part) : Prop := (p.1 ≠ [] → sz B = (p.1.length : Int)) ∧ GZ sz p.2 (B + (p.1.length : Int)) ∧ ∀ j, B ≤ j → j < B + ((pL p).length : Int) → 1 ≤ sz j ∧ j + sz j ≤ B + ((pL p).length : Int) ∧ Chn sz (B + ((pL p).length : Int)) (arS (sym j)).toNat (j + 1) (j + sz j)
def Pt (NL : List Nat) (sym sz ends : Int → Int) (i : Nat) (B : Int) (p : Part) : Prop := ends (i : Int) = B + ((pL p).length : Int) ∧ (∀ j : Nat, j < (pL p).length → sym (B + (j : Int)) = sC NL (vN (pL p)) ((pL p).getD j (0, 0))) ∧ PZ sym sz B p
/-- a term that begins with a NAME -/
def nmT (S : List Sy) : Prop := Tms 1 S ∧ (∀ x ∈ S, okT x) ∧ ∃ (a w : Nat) (T : List Sy), S = ((a : Int), w) :: T ∧ w ≠ 1 ∧ w ≠ 2
def PSh (p : Part) : Prop := (p.1 = [] ∨ nmT p.1) ∧ ∀ G ∈ p.2, G = [(-2, 0)] ∨ nmT G
def okS (x : Sy) : Prop := okT x ∨ x = (-2, 0)
theorem PSh_ok {p : Part} (h : PSh p) : ∀ x ∈ pL p, okS x := fun x hx => by
  rcases List.mem_append.mp hx with q | q
  · rcases h.1 with e | e
    · rw [e] at q; exact absurd q (List.not_mem_nil)
    · exact Or.inl (e.2.1 x q)
  · obtain ⟨G, hG, hx⟩ := List.mem_flatten.mp q
    rcases h.2 G hG with e | e
    · rw [e] at hx; exact Or.inr (List.mem_singleton.mp hx)
    · exact Or.inl (e.2.1 x hx)
theorem arS_sC {NL VL : List Nat} {x : Sy} (h : okS x) (h4 : x.1 ≤ 4) : arS (sC NL VL x) = (x.1.toNat : Int) := by
  unfold sC
  rcases h with (h | h | h | ⟨h1, h2, h3⟩) | h
  · rw [if_pos h, h]
    by_cases e : x.2 = 95
    · rw [if_pos e]; rfl
    · rw [if_neg e]
      unfold arS
      rw [if_neg (by omega)]
      rfl
  · subst h; rfl
  · subst h; rfl
  · rw [if_neg (by omega), if_neg (by omega), if_neg h2, if_neg h3]
    unfold arS
    rw [if_pos (by omega)]
    omega
  · subst h; rfl
theorem Tms_flat : ∀ (Gs : List (List Sy)), (∀ G ∈ Gs, G = [(-2, 0)] ∨ nmT G) → Tms Gs.length Gs.flatten
  | [], _ => Tms_nil
  | G :: Gs, h => by
    have h1 : Tms 1 G := by
      rcases h G List.mem_cons_self with e | e
      · rw [e]; exact Tms_one (x := (-2, 0)) Tms_nil
      · exact e.1
    have := Tms_app h1 (Tms_flat Gs (fun G' hG => h G' (List.mem_cons_of_mem _ hG)))
    rw [List.length_cons, List.flatten_cons, Nat.add_comm]
    exact this
theorem PSh_tms {p : Part} (h : PSh p) : ∃ b, Tms b (pL p) := by
  have h2 := Tms_flat p.2 h.2
  rcases h.1 with e | e
  · refine ⟨p.2.length, ?_⟩
    unfold pL; rw [e]; exact h2
  · exact ⟨_, Tms_app e.1 h2⟩
theorem AtL_sub {sym : Int → Int} {u x : Int} {A T C : List Sy} (h : AtL sym u (A ++ (T ++ C)) x) : AtL sym (x + (A.length : Int) + (T.length : Int)) T (x + (A.length : Int)) := by
  obtain ⟨h1, h2⟩ := h
  refine ⟨rfl, fun i hi => ?_⟩
  have := h2 (A.length + i) (by rw [List.length_append, List.length_append]; omega)
  rw [gD_app_r, gD_app_l hi] at this
  rw [show x + (A.length : Int) + (i : Int) = x + ((A.length + i : Nat) : Int) by omega]
  exact this
theorem GZ_all {sym sz : Int → Int} {B u : Int} (hM : ∀ j, B ≤ j → j < u → MsR sym sz u j) : ∀ (Gs : List (List Sy)) (A : List Sy), (∀ G ∈ Gs, G = [(-2, 0)] ∨ nmT G) → AtL sym u (A ++ Gs.flatten) B → GZ sz Gs (B + (A.length : Int))
  | [], _, _, _ => trivial
  | G :: Gs, A, h, hA => by
    have h1 : Tms 1 G := by
      rcases h G List.mem_cons_self with e | e
      · rw [e]; exact Tms_one (x := (-2, 0)) Tms_nil
      · exact e.1
    rw [List.flatten_cons] at hA
    have hs := AtL_sub hA
    have hl := hA.1
    rw [List.length_append, List.length_append] at hl
    have := chain_one hM (by omega) (by omega) hs h1
    refine ⟨by omega, ?_⟩
    have ih := GZ_all hM Gs (A ++ G) (fun G' hG => h G' (List.mem_cons_of_mem _ hG)) (by rw [List.append_assoc]; exact hA)
    rw [List.length_append] at ih
    rw [show B + (A.length : Int) + (G.length : Int) = B + ((A.length + G.length : Nat) : Int) by omega]
    exact ih
theorem PZ_of {sym sz : Int → Int} {B : Int} {p : Part} (h : PSh p) (hA : AtL sym (B + ((pL p).length : Int)) (pL p) B) (hM : ∀ j, B ≤ j → j < B + ((pL p).length : Int) → MsR sym sz (B + ((pL p).length : Int)) j) : PZ sym sz B p := by
  obtain ⟨b, hb⟩ := PSh_tms h
  have hF : Fr (pL p) (0 + b) := by
    have := hb [] 0 rfl
    rw [List.append_nil] at this
    exact this
  refine ⟨fun hne => ?_, GZ_all hM p.2 p.1 h.2 hA, fun j j1 j2 => ⟨(hM j j1 j2).1, (hM j j1 j2).2.1, chain_all hM (Int.le_refl _) hA hF j j1 j2⟩⟩
  have h1 : nmT p.1 := h.1.resolve_left hne
  have hs : AtL sym (B + (([] : List Sy).length : Int) + (p.1.length : Int)) p.1 (B + (([] : List Sy).length : Int)) := AtL_sub (A := []) hA
  have hl : (pL p).length = p.1.length + p.2.flatten.length := List.length_append
  simp only [List.length_nil] at hs
  rw [show B + ((0 : Nat) : Int) = B by omega] at hs
  have := chain_one hM (by omega) (Int.le_refl _) hs h1.1
  omega
theorem Pt_mono {NL : List Nat} {sym sz ends sym' sz' ends' : Int → Int} {i : Nat} {B : Int} {p : Part} (t : List Nat) (h : Pt NL sym sz ends i B p) (hsh : ∀ x ∈ pL p, okS x) (hGn : ∀ G ∈ p.2, G ≠ []) (hin : ∀ x ∈ pL p, 0 ≤ x.1 → x.2 ≠ 1 → x.2 ≠ 2 → x.2 ∈ NL) (e1 : ends' (i : Int) = ends (i : Int)) (e2 : ∀ j, B ≤ j → j < B + ((pL p).length : Int) → sym' j = sym j) (e3 : ∀ j, B ≤ j → j < B + ((pL p).length : Int) → sz' j = sz j) : Pt (NL ++ t) sym' sz' ends' i B p := by
  obtain ⟨h1, h2, h3, h4, h5⟩ := h
  have ch : ∀ (n : Nat) (x z : Int), B ≤ x → Chn sz (B + ((pL p).length : Int)) n x z → Chn sz' (B + ((pL p).length : Int)) n x z := by
    intro n
    induction n with
    | zero => intro x z _ h; exact h
    | succ n ih =>
      intro x z hx h
      refine ⟨h.1, ?_⟩
      rw [e3 x hx h.1]
      exact ih _ _ (by have := (h5 x hx h.1).1; omega) h.2
  have gz : ∀ (Gs : List (List Sy)) (x : Int), B ≤ x → x + (Gs.flatten.length : Int) ≤ B + ((pL p).length : Int) → (∀ G ∈ Gs, G ≠ []) → GZ sz Gs x → GZ sz' Gs x := by
    intro Gs
    induction Gs with
    | nil => intro x _ _ _ _; trivial
    | cons G Gs ih =>
      intro x hx hl hne h
      rw [List.flatten_cons, List.length_append] at hl
      have hG : 0 < G.length := List.length_pos_iff.mpr (hne G List.mem_cons_self)
      refine ⟨by rw [e3 x hx (by omega)]; exact h.1, ih _ (by omega) (by omega) (fun G' hG => hne G' (List.mem_cons_of_mem _ hG)) h.2⟩
  have hpl : (pL p).length = p.1.length + p.2.flatten.length := List.length_append
  refine ⟨e1.trans h1, fun j hj => ?_, fun hne => ?_, ?_, fun j j1 j2 => ?_⟩
  · rw [e2 _ (by omega) (by omega), h2 j hj]
    have := sC_mono (NL := NL) (VL := vN (pL p)) t [] (x := (pL p).getD j (0, 0)) (fun a b => mem_vN (gD_mem hj) a b) (fun a b c => hin _ (gD_mem hj) a b c) ?_
    · rw [List.append_nil] at this; exact this.symm
    · rcases hsh _ (gD_mem hj) with (q | q | q | q) | q
      · omega
      · rw [q]; decide
      · rw [q]; decide
      · omega
      · rw [q]; decide
  · have : 0 < p.1.length := List.length_pos_iff.mpr hne
    rw [e3 B (Int.le_refl _) (by omega)]; exact h3 hne
  · exact gz p.2 _ (by omega) (by omega) hGn h4
  · rw [e2 j j1 j2, e3 j j1 j2]
    exact ⟨(h5 j j1 j2).1, (h5 j j1 j2).2.1, ch _ _ _ (by omega) (h5 j j1 j2).2.2⟩
theorem PSh_ne {p : Part} (h : PSh p) : ∀ G ∈ p.2, G ≠ [] := fun G hG e => by
  rcases h.2 G hG with q | ⟨-, -, a, w, T, q, -⟩
  · rw [q] at e; cases e
  · rw [q] at e; cases e
/-- the class's state between the parts of a text -/
def TC (NL0 : List Nat) (N : Int) (Ps : List Part) (k : Int) (nm rc rd : Ob) : Prop := ∃ NL : List Nat, ICn NL0 (psL Ps) NL nm ∧ rc.1 0 = ((psL Ps).length : Int) ∧ ((psL Ps).length : Int) ≤ k ∧ 0 ≤ k ∧ k ≤ N ∧ rc.1 1 = (Ps.length : Int) ∧ (Ps.length : Int) ≤ k ∧ (0 < Ps.length → Ps.length ≤ 24 → rc.2.1 2 ((Ps.length : Int) - 1) = ((psL Ps).length : Int)) ∧ (rd.1 5 = 0 ∨ rd.1 5 = 1) ∧ rd.1 3 = 0 ∧ rd.1 4 = k ∧ (rd.1 5 = 1 → OV Ps) ∧ (∀ p ∈ Ps, PSh p) ∧
  (rd.1 5 = 0 → Ps.length ≤ 24 → (∀ p ∈ Ps, ¬ ovP p) ∧ (nm.1 2 = 0 → ∀ (A : List Part) (p : Part) (C : List Part), Ps = A ++ p :: C → Pt NL (rc.2.1 0) (rc.2.1 1) (rc.2.1 2) A.length ((psL A).length : Int) p))
def rd0 (rd : Ob) : Ob := sI (sI (sI rd 0 0) 1 0) 2 0
theorem TC_start {NL0 : List Nat} {N : Int} {Ps : List Part} {k : Int} {nm rc rd : Ob} (h : TC NL0 N Ps k nm rc rd) (hN : N ≤ 240) : IC NL0 (psL Ps) (rc.2.1 0) (rc.2.1 1) (rc.2.1 2) (Ps.length : Int) 0 (OV Ps) (rd.1 5 = 0) (nm.1 2 = 0) (psL Ps) nm rc (rd0 rd) := by
  obtain ⟨NL, h1, h2, h3, h4, h5, h6, h7, h8, h9, h10, h11, h12, h13, h14⟩ := h
  refine ⟨[], NL, [], (List.append_nil _).symm, h1, ⟨?_, h6, rfl, rfl, fun _ _ _ => rfl, fun j j1 => absurd j1 (Nat.not_lt_zero _)⟩, ⟨rfl, h9, Int.le_refl _, Int.le_refl _, rfl, by decide, fun i hi => absurd hi (Nat.not_lt_zero _)⟩, fun z => Or.inl (h12 z), fun z => ⟨rfl, rfl, by decide, fun x hx => absurd hx (List.not_mem_nil), fun _ j j1 => absurd j1 (Nat.not_lt_zero _)⟩, fun x hx => absurd hx (List.not_mem_nil), id, id⟩
  rw [List.append_nil]
  omega
section EPC
variable {tk : Ob} {kE : Int → Int} {wE : Int → Nat} {N : Int} {NL0 : List Nat}
theorem ep_C (hT : TokC tk kE wE N) {Ps : List Part} {p : Part} {k0 k : Int} {nm0 rc0 rd00 nm rc rd : Ob} {K : Int → Ob → Ob → Prop} (h0 : TC NL0 N Ps k0 nm0 rc0 rd00) (hI : IC NL0 (psL Ps) (rc0.2.1 0) (rc0.2.1 1) (rc0.2.1 2) (Ps.length : Int) (p.2.length : Int) (OV Ps) (rd00.1 5 = 0) (nm0.1 2 = 0) (psL Ps ++ pL p) nm rc rd) (h3 : rd.1 3 = 0) (h4 : rd.1 4 = k) (hk : 0 ≤ k) (hkN : k ≤ N) (hlt : k0 < k) (hl : ((psL Ps ++ pL p).length : Int) ≤ k) (hsh : PSh p)
    (hK1 : kE k = 46 → ∀ rc' rd', TC NL0 N (Ps ++ [p]) (k + 1) nm rc' rd' → rd'.1 0 = rd.1 0 → (rd'.1 5 = 0 → rd.1 5 = 0) → K 1 rc' rd') (hK0 : kE k ≠ 46 → K 0 rc rd) : wp_Rd_endPart tk rc rd K := by
  obtain ⟨NLs, s1, s2, s3, s4, s5, s6, s7, s8, s9, s10, s11, s12, s13, s14⟩ := h0
  obtain ⟨L, NL, VL, eL, hn, ⟨c1, c2, c3, c4, c5, c6⟩, ⟨r1, r2, r3, r4, r5⟩, ho, hxx, h2, h5, h6⟩ := hI
  have eL : L = pL p := (List.append_cancel_left eL).symm
  subst eL
  have hN := hT.2.2.2.1
  refine sp_accept hT (by decide) (by omega) (fun e46 hkl => ⟨fun _ => ?_, fun z => absurd z (by decide)⟩) (fun e46 => ⟨fun z => absurd rfl z, fun _ => hK0 (by rw [← h4]; exact e46)⟩)
  rw [h4] at e46 hkl
  have hu : rc.1 0 = ((psL Ps ++ pL p).length : Int) := by omega
  rw [List.length_append] at hu hl
  unfold wp_Cod_partCount_r
  rw [c2]
  -- the last part of the proof, for the two bits
  have fin : ∀ (b1 b2 : Int), (b1 = 0 ∨ b1 = 1) → (b2 = 0 ∨ b2 = 1) → (Ps.length ≤ 24 → (b1 = 1 ↔ 40 < (pL p).length)) → (b2 = 1 ↔ 8 < p.2.length) → Rd_endPart_63 b2 (orI (rd.1 5) b1) tk rc (sI (sI rd 4 (rd.1 4 + 1)) 5 (orI (rd.1 5) b1)) K := fun b1 b2 hb1 hb2 q1 q2 => by
    have o1 := orI_01 r2 hb1
    have w1 := or01 o1.1 hb2
    have o2 := orI_01 o1.1 hb2
    refine ⟨w1.1, w1.2.1, w1.2.2, ?_⟩
    -- what holds behind the part
    have done : ∀ rc' : Ob, rc'.1 0 = rc.1 0 → rc'.1 1 = (Ps.length : Int) + 1 → (∀ j, 0 ≤ j → j < ((psL Ps).length : Int) → rc'.2.1 0 j = rc.2.1 0 j ∧ rc'.2.1 1 j = rc.2.1 1 j) → (∀ j : Int, j < (Ps.length : Int) → rc'.2.1 2 j = rc.2.1 2 j) → (Ps.length < 24 → rc'.2.1 0 = rc.2.1 0 ∧ rc'.2.1 2 (Ps.length : Int) = rc.1 0 ∧ ∀ j, ((psL Ps).length : Int) ≤ j → j < rc.1 0 → MsR (rc'.2.1 0) (rc'.2.1 1) (rc.1 0) j) → K 1 rc' (sI (sI (sI rd 4 (rd.1 4 + 1)) 5 (orI (rd.1 5) b1)) 5 (orI (orI (rd.1 5) b1) b2)) := fun rc' g1 g2 g3 g4 g5 => by
      refine hK1 e46 _ _ ⟨NL, ?_, ?_, ?_, by omega, by omega, ?_, ?_, fun z1 z2 => ?_, o2.1, h3, ?_, fun z => ?_, fun p' hp' => ?_, fun z z24 => ?_⟩ rfl (fun z => (o1.2.mp (o2.2.mp z).1).1)
      · rw [psL_snoc]; exact hn
      · rw [g1, hu, psL_snoc, List.length_append]
      · rw [psL_snoc, List.length_append]; omega
      · rw [g2, List.length_append, List.length_singleton]; omega
      · rw [List.length_append, List.length_singleton]; omega
      · rw [List.length_append, List.length_singleton] at z2 ⊢
        rw [show (((Ps.length + 1 : Nat)) : Int) - 1 = (Ps.length : Int) by omega, (g5 (by omega)).2.1, hu, psL_snoc, List.length_append]
      · show rd.1 4 + 1 = k + 1; omega
      · have z : orI (orI (rd.1 5) b1) b2 = 1 := z
        by_cases h24 : 24 < Ps.length + 1
        · exact Or.inl (by rw [List.length_append, List.length_singleton]; exact h24)
        · have more : OV Ps → OV (Ps ++ [p]) := fun q => by
            rcases q with q | ⟨p', hp', q⟩
            · omega
            · exact Or.inr ⟨p', List.mem_append_left _ hp', q⟩
          have this : ovP p → OV (Ps ++ [p]) := fun q => Or.inr ⟨p, List.mem_append_right _ (List.mem_singleton.mpr rfl), q⟩
          rcases hb2 with b | b
          · have z1 : orI (rd.1 5) b1 = 1 := by
              rcases o1.1 with q | q
              · have := o2.2.mpr ⟨q, b⟩; omega
              · exact q
            rcases hb1 with b' | b'
            · have z2 : rd.1 5 = 1 := by
                rcases r2 with q | q
                · have := o1.2.mpr ⟨q, b'⟩; omega
                · exact q
              rcases ho z2 with q | q | q
              · exact more q
              · exact this (Or.inr (Or.inl q))
              · exact this (Or.inr (Or.inr (Or.inr q)))
            · exact this (Or.inl ((q1 (by omega)).mp b'))
          · exact this (Or.inr (Or.inr (Or.inl (q2.mp b))))
      · rcases List.mem_append.mp hp' with q | q
        · exact s13 p' q
        · rw [List.mem_singleton.mp q]; exact hsh
      · have z : orI (orI (rd.1 5) b1) b2 = 0 := z
        obtain ⟨z1, zb2⟩ := o2.2.mp z
        obtain ⟨z0, zb1⟩ := o1.2.mp z1
        rw [List.length_append, List.length_singleton] at z24
        obtain ⟨x1, x2, x3, x4, x5⟩ := hxx z0
        have old := s14 (h5 z0) (by omega)
        have nov : ¬ ovP p := fun q => by
          rcases q with q | q | q | ⟨y, hy, q⟩
          · have := (q1 (by omega)).mpr q; omega
          · rw [vM_len, ← x1] at q; omega
          · have := q2.mpr q; omega
          · have := x4 y hy; omega
        refine ⟨fun p' hp' => ?_, fun hm A p' C hA => ?_⟩
        · rcases List.mem_append.mp hp' with q | q
          · exact old.1 p' q
          · rw [List.mem_singleton.mp q]; exact nov
        · have hm0 := h6 hm
          have eNLs := s1.2.2.2.2.1 hm0
          have eNL := hn.2.2.2.2.1 hm
          obtain ⟨t, ht⟩ := nmL_ext NLs (pL p)
          have eNL2 : NL = NLs ++ t := by rw [eNL, nmL_app, ← eNLs, ht]
          rcases List.eq_nil_or_concat C with eC | ⟨C', y, eC⟩
          · subst eC
            have hA2 : Ps = A ∧ p = p' := by
              have := List.append_inj' hA rfl
              exact ⟨this.1, by have := this.2; injection this⟩
            obtain ⟨rfl, rfl⟩ := hA2
            obtain ⟨g6, g7, g8⟩ := g5 (by omega)
            refine ⟨?_, fun j hj => ?_, PZ_of hsh ⟨rfl, fun i hi => ?_⟩ ?_⟩
            · rw [g7, hu]; omega
            · rw [g6]
              have := x5 hm j hj (by omega)
              rw [show (((psL Ps).length : Int)) + (j : Int) = (((psL Ps).length + j : Nat) : Int) by omega, this, x1]
            · rw [g6]
              have := x5 hm i hi (by omega)
              rw [show (((psL Ps).length : Int)) + (i : Int) = (((psL Ps).length + i : Nat) : Int) by omega, this]
              exact arS_sC (PSh_ok hsh _ (gD_mem hi)) (x4 _ (gD_mem hi))
            · rw [hu, show (((psL Ps).length + (pL p).length : Nat) : Int) = ((psL Ps).length : Int) + ((pL p).length : Int) by omega] at g8
              exact g8
          · have hA2 : Ps = A ++ p' :: C' := by
              rw [eC, List.concat_eq_append, ← List.cons_append, ← List.append_assoc] at hA
              exact (List.append_inj' hA rfl).1
            have hpt := old.2 hm0 A p' C' hA2
            have hin : p' ∈ Ps := by rw [hA2]; exact List.mem_append_right _ List.mem_cons_self
            have hle : (psL A).length + (pL p').length ≤ (psL Ps).length := by
              rw [hA2, psL_app, psL_cons, List.length_append, List.length_append]; omega
            have hAl : A.length < Ps.length := by rw [hA2, List.length_append, List.length_cons]; omega
            rw [eNL2]
            refine Pt_mono t hpt (PSh_ok (s13 p' hin)) (PSh_ne (s13 p' hin)) (fun x hx a b c => ?_) ?_ (fun j j1 j2 => ?_) (fun j j1 j2 => ?_)
            · rw [eNLs]
              refine mem_nmL _ _ _ ?_ a b c
              rw [hA2, psL_app, psL_cons]
              exact List.mem_append_right _ (List.mem_append_left _ hx)
            · rw [g4 _ (by omega), c4]
            · rw [(g3 j (by omega) (by omega)).1, c5 j (by omega) (by omega)]
            · rw [(g3 j (by omega) (by omega)).2, c3]
    refine ⟨fun h24 => ⟨⟨by omega, by omega⟩, ?_⟩, fun h24 => ⟨⟨by omega, by omega⟩, ?_⟩⟩
    · rw [c2] at h24
      refine done (sI rc 1 (rc.1 1 + 1)) rfl (by show rc.1 1 + 1 = _; omega) (fun j _ _ => ⟨rfl, rfl⟩) (fun j _ => rfl) (fun z => by omega)
    · rw [c2] at h24 ⊢
      have meas : wp_Cod_measure_r ((psL Ps).length : Int) (sA rc 2 (Ps.length : Int) (rc.1 0)) (fun rc_2 => Cod_endPart_r_37 rc_2 (fun rc_5 => K 1 rc_5 (sI (sI (sI rd 4 (rd.1 4 + 1)) 5 (orI (rd.1 5) b1)) 5 ((Int.toNat (orI (rd.1 5) b1) ||| Int.toNat b2 : Nat) : Int)))) := by
        refine sp_measure_r ⟨by omega, by show _ ≤ rc.1 0; omega⟩ (by show rc.1 0 ≤ 240; omega) (fun rc' m1 m2 m3 m4 m5 => ?_)
        have e1 : rc'.1 1 = (Ps.length : Int) := by rw [m1]; exact c2
        refine ⟨⟨by omega, by omega⟩, ?_⟩
        refine done (sI rc' 1 (rc'.1 1 + 1)) ?_ (by show rc'.1 1 + 1 = _; omega) (fun j j1 j2 => ⟨?_, ?_⟩) (fun j hj => ?_) (fun _ => ⟨m2, ?_, fun j j1 j2 => ?_⟩)
        · show rc'.1 0 = _; rw [m1]; rfl
        · show rc'.2.1 0 j = _; rw [m2]; rfl
        · show rc'.2.1 1 j = _; rw [m4 j j2]; rfl
        · show rc'.2.1 2 j = _
          rw [m3]
          show updI (rc.2.1 2) _ _ j = _
          rw [updI_n (by omega)]
        · show rc'.2.1 2 _ = _
          rw [m3]
          exact updI_s _ _ _
        · exact m5 j j1 j2
      refine ⟨fun z => ?_, fun z => ⟨fun z2 => ⟨⟨by omega, by omega⟩, ⟨by omega, by omega⟩, ?_⟩, fun z2 => by omega⟩⟩
      · have e0 : (psL Ps).length = 0 := by
          have : Ps = [] := List.eq_nil_of_length_eq_zero (by omega)
          rw [this]; rfl
        rw [e0] at meas
        exact meas
      · show wp_Cod_measure_r (updI (rc.2.1 2) (Ps.length : Int) (rc.1 0) ((Ps.length : Int) - 1)) _ _
        rw [updI_n (by omega), c4, s8 (by omega) (by omega)]
        exact meas
  have mid : ∀ (b1 : Int), (b1 = 0 ∨ b1 = 1) → (Ps.length ≤ 24 → (b1 = 1 ↔ 40 < (pL p).length)) → Rd_endPart_40 b1 (rd.1 5) tk rc (sI rd 4 (rd.1 4 + 1)) K := fun b1 hb1 q1 => by
    have w1 := or01 r2 hb1
    refine ⟨w1.1, w1.2.1, w1.2.2, fun z => ?_, fun z => ?_⟩
    · have z : rd.1 2 ≤ 8 := z
      exact fin b1 0 hb1 (Or.inl rfl) q1 (by omega)
    · have z : ¬ rd.1 2 ≤ 8 := z
      exact fin b1 1 hb1 (Or.inr rfl) q1 (by omega)
  have go : ∀ r : Int, 0 ≤ r → r ≤ rc.1 0 → (Ps.length ≤ 24 → r = ((psL Ps).length : Int)) → (R32 (rc.1 0 - r) ∧ ((rc.1 0 - r ≤ 40 → Rd_endPart_40 0 (rd.1 5) tk rc (sI rd 4 (rd.1 4 + 1)) K) ∧ (¬ rc.1 0 - r ≤ 40 → Rd_endPart_40 1 (rd.1 5) tk rc (sI rd 4 (rd.1 4 + 1)) K))) := fun r r0 r1' hr => by
    refine ⟨⟨by omega, by omega⟩, fun z => mid 0 (Or.inl rfl) (fun q => ?_), fun z => mid 1 (Or.inr rfl) (fun q => ?_)⟩
    · have := hr q; omega
    · have := hr q; omega
  refine ⟨fun z => go 0 (by omega) (by omega) (fun q => ?_), fun z => ⟨fun z2 => ⟨⟨by omega, by omega⟩, ⟨by omega, by omega⟩, ?_⟩, fun z2 => go 0 (by omega) (by omega) (fun q => by omega)⟩⟩
  · have : Ps = [] := List.eq_nil_of_length_eq_zero (by omega)
    rw [this]; rfl
  · have e := s8 (by omega) (by omega)
    rw [c4, e]
    exact go _ (by omega) (by omega) (fun _ => rfl)
end EPC
