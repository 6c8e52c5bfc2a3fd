/-! the pure part: consult, both sides together -/
theorem TF_of {tx m : Ob} {kE : Int → Int} {wE : Int → Nat} {pl en : Int → Int} {N : Int} (hT : RText tx m) (h : TKF (tx.2.1 0) (tx.1 0) kE wE pl en N) : TF (m.2.1 0) (m.1 0) kE wE pl en N := by
  obtain ⟨e0, h0, h1, hc⟩ := hT
  obtain ⟨g1, g2, g3, g4, g5⟩ := h
  rw [← e0]
  exact ⟨⟨TKE_congr (fun i i0 i1 => (hc i i0 i1).1) g1, g2, g3, g4, g5⟩, fun i i0 i1 => (hc i i0 i1).2⟩
theorem MPr_eq {NL : List Nat} {Cs : List Part} {m m' : Ob} (h : MPr NL Cs m) (e10 : m'.1 10 = m.1 10) (e11 : m'.1 11 = m.1 11) (a10 : m'.2.1 10 = m.2.1 10) (a11 : m'.2.1 11 = m.2.1 11) (a12 : m'.2.1 12 = m.2.1 12) (a13 : m'.2.1 13 = m.2.1 13) (l2 : m'.2.2.2 2 = m.2.2.2 2) (l3 : m'.2.2.2 3 = m.2.2.2 3) : MPr NL Cs m' := by
  unfold MPr MCl
  rw [e10, e11, a10, a11, a12, a13, l2, l3]
  exact h
theorem MPr_rfr {NL : List Nat} {Cs : List Part} {m m' : Ob} (h : MPr NL Cs m) (f : rfr m m') : MPr NL Cs m' := MPr_eq h (f.1 10 (by omega)) (f.1 11 (by omega)) (f.2.1 10 (by omega)) (f.2.1 11 (by omega)) (f.2.1 12 (by omega)) (f.2.1 13 (by omega)) (f.2.2 2 (by omega)) (f.2.2 3 (by omega))
/-- the reference, where nothing is searched any more -/
def mNo (m : Ob) : Ob := sI (sI (sI (sI (sI (sI m 0 0) 13 0) 15 0) 16 0) 17 0) 18 0
/-- all but the search -/
def Base (i : Nat) (NL : List Nat) (Cs : List Part) (tx nm pr te m : Ob) : Prop := RText tx m ∧ nmKp nm NL ∧ PrOk NL Cs pr ∧ MPr NL Cs m ∧ TeB i te
theorem RText_0 {tx m : Ob} (h : m.1 0 = 0) : RText (sI tx 0 0) m := ⟨h.symm, Int.le_refl _, by show (0 : Int) ≤ 240; decide, fun i i0 i1 => by have i1 : i < 0 := i1; omega⟩
theorem much_loop {Qs : List Part} {m : Ob} {K : Int → Ob → Prop} (hR : RDn Qs m) : ∀ (n : Nat) (C A : List Part) (x2 : Int), Qs = A ++ C → C.length < n → (x2 = 0 ∨ x2 = 1) → ((x2 = 1 ∨ ∃ p ∈ C, ovP p) → M_consult_77 1 m K) → (x2 = 0 → (∀ p ∈ C, ¬ ovP p) → M_consult_77 0 m K) → M_consult_45 n x2 (A.length : Int) m K := by
  intro n
  induction n with
  | zero => intro C A x2 _ h; omega
  | succ n ih =>
    intro C A x2 hA hn hx k1 k0
    have hlen : Qs.length = A.length + C.length := by rw [hA, List.length_append]
    have h5 := hR.2.1
    have hb := hR.2.2.2.2.1
    refine ⟨fun z => ?_, fun z => ?_⟩
    · have : C = [] := by
        cases C with
        | nil => rfl
        | cons c C => rw [List.length_cons] at hlen; omega
      subst this
      rcases hx with e | e
      · subst e
        exact k0 rfl (fun p hp => absurd hp (List.not_mem_nil))
      · subst e
        exact k1 (Or.inl rfl)
    · cases C with
      | nil => rw [List.length_nil] at hlen; omega
      | cons p C =>
        rw [List.length_cons] at hlen hn
        have nx : ∀ y : Int, (y = 0 ∨ y = 1) → (y = 1 → x2 = 1 ∨ ovP p) → (y = 0 → x2 = 0 ∧ ¬ ovP p) → M_consult_70 (fun x2 x3 m' => M_consult_45 n x2 x3 m' K) (A.length : Int) y m K := fun y hy y1 y0 => by
          refine ⟨⟨by omega, by omega⟩, ?_⟩
          have := ih C (A ++ [p]) y (by rw [hA, List.append_assoc]; rfl) (by omega) hy (fun z => k1 ?_) (fun z1 z2 => k0 (y0 z1).1 (fun q hq => ?_))
          · rw [List.length_append, List.length_singleton] at this
            exact this
          · rcases z with z | ⟨q, hq, w⟩
            · rcases y1 z with w | w
              · exact Or.inl w
              · exact Or.inr ⟨p, List.mem_cons_self, w⟩
            · exact Or.inr ⟨q, List.mem_cons_of_mem _ hq, w⟩
          · rcases List.mem_cons.mp hq with w | w
            · rw [w]; exact (y0 z1).2
            · exact z2 q w
        exact ⟨fun w => nx 1 (Or.inr rfl) (fun _ => Or.inl (hx.resolve_left w)) (fun z => absurd z (by decide)), fun w => sp_tooMuch hR hA (fun v => ⟨fun z => absurd z (by decide), fun _ => nx 1 (Or.inr rfl) (fun _ => Or.inr v) (fun z => absurd z (by decide))⟩) (fun v => ⟨fun _ => nx 0 (Or.inl rfl) (fun z => absurd z (by decide)) (fun _ => ⟨w, v⟩), fun z => absurd rfl z⟩)⟩
/-- all symbols of well-shaped parts are symbols -/
theorem psL_ok {Qs : List Part} (h : ∀ p ∈ Qs, PSh p) : ∀ x ∈ psL Qs, okS x := fun x hx => by
  unfold psL at hx
  obtain ⟨l, hl, hx⟩ := List.mem_flatten.mp hx
  obtain ⟨p, hp, e⟩ := List.mem_map.mp hl
  subst e
  exact PSh_ok (h p hp) x hx
theorem inNL_psL {NL : List Nat} {Qs : List Part} : ∀ p ∈ Qs, inNL (nmL NL (psL Qs)) p := fun p hp x hx h0 h1 h2 => mem_nmL NL (psL Qs) x (by
  unfold psL
  exact List.mem_flatten.mpr ⟨pL p, List.mem_map.mpr ⟨p, hp, rfl⟩, hx⟩) h0 h1 h2
theorem PrOk_nm {NL : List Nat} {Cs : List Part} {pr : Ob} (t : List Nat) (h : PrOk NL Cs pr) : PrOk (NL ++ t) Cs pr := by
  obtain ⟨h0, h1, h2, h3, h4⟩ := h
  exact ⟨h0, h1, h2, PtAll_mono t h3 h4 (fun _ _ => rfl) (fun _ _ _ => ⟨rfl, rfl⟩), fun p hp => ⟨(h4 p hp).1, (h4 p hp).2.1, fun x hx a b c => List.mem_append_left _ ((h4 p hp).2.2 x hx a b c)⟩⟩
theorem consult_ok {i : Nat} {NL : List Nat} {Cs : List Part} {tx tk nm pr rc rd te go ch se wr m : Ob} {R : Ob → Ob → Ob → Ob → Ob → Ob → Ob → Ob → Ob → Ob → Ob → Ob → Prop} (hRR : ∀ tx' tk' nm' pr' rc' rd' te' go' ch' se' wr' m', (∃ NL' Cs', Base i NL' Cs' tx' nm' pr' te' m') → SN te' go' ch' se' wr' m' → R tx' tk' nm' pr' rc' rd' te' go' ch' se' wr' m') (hB : Base i NL Cs tx nm pr te m) (hch : 0 ≤ ch.1 0) : wp_P_consult tx tk nm pr rc rd te go ch se wr (fun r tx' tk' nm' pr' rc' rd' te' go' ch' se' wr' => wp_M_consult m (fun r' m' => r = r' ∧ R tx' tk' nm' pr' rc' rd' te' go' ch' se' wr' m')) := by
  obtain ⟨hT, hnm, hpr, hm, hte⟩ := hB
  refine sp_Sea_end hte hch (fun te' go' ch' se' wr' hte' hSN => ?_)
  have h24 : Cs.length ≤ 24 := hpr.2.2.1
  have h1 : pr.1 1 = (Cs.length : Int) := hpr.2.1
  show wp_Rd_readClauses (pr.1 1) tx tk nm rc rd _
  rw [h1]
  -- the reference after its read, when nothing is kept
  have keep0 : ∀ m1, rfr m m1 → MPr NL Cs (mNo m1) := fun m1 f => MPr_eq (MPr_rfr hm f) rfl rfl rfl rfl rfl rfl rfl rfl
  refine sp_readClauses ⟨hT.2.1, hT.2.2.1⟩ (fun j j0 j1 => by rw [(hT.2.2.2 j j0 j1).1]; exact (hT.2.2.2 j j0 j1).2) hnm ⟨by omega, by omega⟩ (fun kE wE pl en N k' j Qs hF hp tk' nm' rc' rd' hn' => ?_) (fun kE wE pl en N k' j Qs hF hp hsh hl hov tk' nm' rc' rd' hn' => ?_) (fun kE wE pl en N k' j Qs hF hp hsh hl hov tk' nm' rc' rd' hn' hpt r0 r1 => ?_)
  · -- a fault
    have hkN := PCs_N (TKF_kd hF).2.1 j 0 k' false Qs (Int.le_refl _) (TKF_kd hF).2.2.2.1 hp
    have hpl := TKF_pl hF k' hkN.1 hkN.2
    have hn240 := hF.2.2.2.2
    refine ⟨fun _ => ?_, fun z => by omega⟩
    refine sp_M_read0 (TF_of hT hF) hp (fun z => by cases z) (fun _ m1 f => ?_)
    refine ⟨fun z => by omega, fun _ => ⟨⟨by omega, by omega⟩, rfl, hRR _ _ _ _ _ _ _ _ _ _ _ _ ⟨NL, Cs, RText_0 rfl, hn', hpr, keep0 m1 f, hte'⟩ (hSN _ rfl rfl rfl rfl rfl)⟩⟩
  · -- too much
    refine ⟨fun _ => ?_, fun z => absurd (by decide) z⟩
    refine sp_M_read0 (TF_of hT hF) hp (fun _ m1 hR f => ?_) (fun z => by cases z)
    have hm3 := keep0 m1 f
    have hR3 : RDn Qs (mNo m1) := RDn_eq hR rfl rfl rfl rfl rfl rfl rfl rfl
    have hb := hR.2.2.2.2.1
    have e5 : (mNo m1).1 5 = (Qs.length : Int) := hR3.2.1
    have e10 : (mNo m1).1 10 = (Cs.length : Int) := hm3.1
    have hR32 : R32 ((mNo m1).1 10 + (mNo m1).1 5) := by
      have := hR.2.2.2.2.1
      exact ⟨by omega, by omega⟩
    have fin : ∀ m4 : Ob, m4.1 = (mNo m1).1 → m4.2.1 = (mNo m1).2.1 → (∀ j, j ≠ 3 → m4.2.2.2 j = (mNo m1).2.2.2 j) → arN (m4.2.2.2 3) (nmL NL (psL Qs)) → (-1000 : Int) = -1000 ∧ R (sI tx 0 0) tk' nm' pr rc' rd' te' go' ch' se' wr' m4 := fun m4 q1 q2 q3 q4 => by
      refine ⟨rfl, hRR _ _ _ _ _ _ _ _ _ _ _ _ ⟨NL, Cs, RText_0 (by rw [q1]; rfl), hn', hpr, ?_, hte'⟩ (hSN _ (by rw [q1]; rfl) (by rw [q1]; rfl) (by rw [q1]; rfl) (by rw [q1]; rfl) (by rw [q1]; rfl))⟩
      obtain ⟨v1, v2, v3, v4, v5⟩ := hm3
      refine ⟨by rw [q1]; exact v1, by rw [q1]; exact v2, fun k hk => ?_, ?_, v5⟩
      · obtain ⟨t, ht⟩ := nmL_ext NL (psL Qs)
        have := q4 k (by rw [ht, List.length_append]; omega)
        rw [ht, List.getD_eq_getElem?_getD, List.getElem?_append_left hk, ← List.getD_eq_getElem?_getD] at this
        exact this
      · intro A p C hA
        have := v4 A p C hA
        unfold MCl at this ⊢
        rw [q2, q3 2 (by decide)]
        exact this
    have f77 : ∀ x2 : Int, (x2 = 0 ∨ x2 = 1) → (x2 = 0 → 32 < (nmL NL (psL Qs)).length) → M_consult_77 x2 (mNo m1) (fun r' m' => (-1000 : Int) = r' ∧ R (sI tx 0 0) tk' nm' pr rc' rd' te' go' ch' se' wr' m') := fun x2 hx h0 => by
      refine sp_addNames (E := psL Qs) (NL0 := NL) hR3.1 hl hm3.2.1 hnm.1.2.1 hm3.2.2.1 (psL_ok hsh) (DP_flat hR3.2.2.1) (fun m4 q1 q2 q3 q4 q5 => ⟨fun _ => fin m4 q1 q2 q4 q5, fun z => ⟨fun z2 => by have := h0 z; omega, fun _ => fin m4 q1 q2 q4 q5⟩⟩)
    refine ⟨fun _ => ⟨hR32, fun z => ⟨Qs.length + 1, ?_⟩, fun z => ⟨Qs.length + 1, ?_⟩⟩, fun z => absurd (by decide) z⟩
    · have z : (mNo m1).1 10 + (mNo m1).1 5 ≤ 24 := z
      refine much_loop hR3 _ Qs [] 0 rfl (by omega) (Or.inl rfl) (fun _ => f77 1 (Or.inr rfl) (fun z => absurd z (by decide))) (fun _ hno => f77 0 (Or.inl rfl) (fun _ => ?_))
      rcases hov with q | q | q
      · omega
      · rcases q with q | ⟨p, hp', q⟩
        · omega
        · exact absurd q (hno p hp')
      · exact q
    · exact much_loop hR3 _ Qs [] 1 rfl (by omega) (Or.inr rfl) (fun _ => f77 1 (Or.inr rfl) (fun z => absurd z (by decide))) (fun z => absurd z (by decide))
  · -- kept
    have hno : ∀ p ∈ Qs, ¬ ovP p := fun p hp' q => hov (Or.inr (Or.inl (Or.inr ⟨p, hp', q⟩)))
    have hq24 : Cs.length + Qs.length ≤ 24 := by
      by_cases q : 24 < (Cs.length : Int) + (Qs.length : Int)
      · exact absurd (Or.inl q) hov
      · omega
    have hn32 : (nmL NL (psL Qs)).length ≤ 32 := by
      by_cases q : 32 < (nmL NL (psL Qs)).length
      · exact absurd (Or.inr (Or.inr q)) hov
      · omega
    obtain ⟨t, ht⟩ := nmL_ext NL (psL Qs)
    have hpr2 : PrOk (nmL NL (psL Qs)) Cs pr := by rw [ht]; exact PrOk_nm t hpr
    have hQok : ∀ p ∈ Qs, ClOk (nmL NL (psL Qs)) p := fun p hp' => ⟨hsh p hp', hno p hp', inNL_psL p hp'⟩
    have hhd := PCs_hd j 0 k' Qs hp
    -- the reference's side
    have ref : ∀ pr', PrOk (nmL NL (psL Qs)) (Cs ++ Qs) pr' → wp_M_consult m (fun r' m' => (Qs.length : Int) = r' ∧ R (sI tx 0 0) tk' nm' pr' rc' rd' te' go' ch' se' wr' m') := fun pr' hpr' => by
      refine sp_M_read0 (TF_of hT hF) hp (fun _ m1 hR f => ?_) (fun z => by cases z)
      have hm3 := keep0 m1 f
      have hR3 : RDn Qs (mNo m1) := RDn_eq hR rfl rfl rfl rfl rfl rfl rfl rfl
      have e5 : (mNo m1).1 5 = (Qs.length : Int) := hR3.2.1
      have e10 : (mNo m1).1 10 = (Cs.length : Int) := hm3.1
      have hR32 : R32 ((mNo m1).1 10 + (mNo m1).1 5) := by
        have := hR.2.2.2.2.1
        exact ⟨by omega, by omega⟩
      refine ⟨fun _ => ⟨hR32, fun z => ⟨Qs.length + 1, ?_⟩, fun z => ?_⟩, fun z => absurd (by decide) z⟩
      · refine much_loop hR3 _ Qs [] 0 rfl (by omega) (Or.inl rfl) (fun z => ?_) (fun _ _ => ?_)
        · rcases z with z | ⟨p, hp', q⟩
          · exact absurd z (by decide)
          · exact absurd q (hno p hp')
        · refine sp_addNames (E := psL Qs) (NL0 := NL) hR3.1 hl hm3.2.1 hnm.1.2.1 hm3.2.2.1 (psL_ok hsh) (DP_flat hR3.2.2.1) (fun m4 q1 q2 q3 q4 q5 => ⟨fun z => absurd rfl z, fun _ => ⟨fun _ => ⟨Qs.length + 1, ?_⟩, fun z => by omega⟩⟩)
          have hR4 : RDn Qs (sI m4 11 ((nmL NL (psL Qs)).length : Int)) := RDn_eq hR3 (by show m4.1 4 = _; rw [q1]) (by show m4.1 5 = _; rw [q1]) (by show m4.2.1 1 = _; rw [q2]) (by show m4.2.1 2 = _; rw [q2]) (by show m4.2.1 3 = _; rw [q2]) (by show m4.2.1 4 = _; rw [q2]) (by show m4.2.1 5 = _; rw [q2]) (q4 0 (by decide))
          refine sp_M_keepAll (Cs := Cs) (NL := NL) hno (fun p hp' => (hpr.2.2.2.2 p hp').2.1) hq24 _ Qs [] _ rfl (by omega) hR4 ?_ (fun A p C hA => ?_) (fun m5 s1 s2 s3 s4 s5 s6 => ?_)
          · show m4.1 10 = _
            rw [q1, List.append_nil]; exact e10
          · rw [List.append_nil] at hA
            have := hm3.2.2.2.1 A p C hA
            have key : MCl m4 (A.length : Int) p := by
              unfold MCl at this ⊢
              rw [q2, q4 2 (by decide)]
              exact this
            exact key
          · have g : ∀ j, j ≠ 10 → j ≠ 11 → m5.1 j = (mNo m1).1 j := fun j a c => by
              rw [s4 j a]
              show (if j = 11 then _ else m4.1 j) = _
              rw [if_neg c, q1]
            refine ⟨rfl, hRR _ _ _ _ _ _ _ _ _ _ _ _ ⟨nmL NL (psL Qs), Cs ++ Qs, RText_0 (g 0 (by decide) (by decide)), hn', hpr', ⟨s2, s4 11 (by decide), ?_, s3, fun p hp' => ?_⟩, hte'⟩ (hSN _ (g 13 (by decide) (by decide)) (g 15 (by decide) (by decide)) (g 16 (by decide) (by decide)) (g 17 (by decide) (by decide)) (g 18 (by decide) (by decide)))⟩
            · rw [s6 3 (by decide)]; exact q5
            · rcases List.mem_append.mp hp' with w | w
              · exact hm3.2.2.2.2 p w
              · exact hhd p w
      · have z : ¬ (mNo m1).1 10 + (mNo m1).1 5 ≤ 24 := z
        omega
    refine ⟨fun z => ?_, fun z => ?_⟩
    · have : Qs = [] := by
        cases Qs with
        | nil => rfl
        | cons q Q => rw [List.length_cons] at z; omega
      subst this
      exact ref pr (by rw [List.append_nil]; exact hpr2)
    · exact sp_addParts hpr2 hpt r0 r1 hq24 hl hQok (fun pr' h => ref pr' h)
theorem forget_ok {i : Nat} {NL : List Nat} {Cs : List Part} {tx nm pr te go ch se wr m : Ob} {R : Ob → Ob → Ob → Ob → Ob → Ob → Ob → Ob → Prop} (hRR : ∀ nm' pr' te' go' ch' se' wr' m', (∃ NL' Cs', Base i NL' Cs' tx nm' pr' te' m') → SN te' go' ch' se' wr' m' → R nm' pr' te' go' ch' se' wr' m') (hB : Base i NL Cs tx nm pr te m) (hch : 0 ≤ ch.1 0) : wp_P_forget nm pr te go ch se wr (fun nm' pr' te' go' ch' se' wr' => wp_M_forget m (fun m' => R nm' pr' te' go' ch' se' wr' m')) := by
  obtain ⟨hT, hnm, hpr, hm, hte⟩ := hB
  refine sp_Sea_end hte hch (fun te' go' ch' se' wr' hte' hSN => ?_)
  refine hRR _ _ _ _ _ _ _ _ ⟨[], [], hT, ⟨⟨rfl, Nat.zero_le _, fun i hi => absurd hi (Nat.not_lt_zero _)⟩, rfl, rfl⟩, ⟨rfl, rfl, by decide, fun A p C hA => ?_, fun p hp => absurd hp (List.not_mem_nil)⟩, ⟨rfl, rfl, fun i hi => absurd hi (Nat.not_lt_zero _), fun A p C hA => ?_, fun p hp => absurd hp (List.not_mem_nil)⟩, hte'⟩ (hSN _ rfl rfl rfl rfl rfl)
  · cases A <;> cases hA
  · cases A <;> cases hA
