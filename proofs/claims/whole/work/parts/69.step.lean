/-! the search: a step on both sides -/
/-- before a step's last look -/
def SPre (NL : List Nat) (Cs : List Part) (Q : Part) (AL : List Nat) (tx : Ob) (b : Int) (te go ch se m : Ob) : Prop := ∃ (E : List Sy) (chl : List Nat) (rp dp : Nat → Nat) (chs : List ChD), SCom NL Cs Q AL tx b E chl rp dp chs te go ch se m ∧ ((se.1 2 = 1 ∧ se.1 1 = 2 ∧ m.1 13 = 3) ∨ (∃ GL, SLiv Cs Q AL E rp chs GL go se m ∧ se.1 1 = 2 ∧ m.1 13 = 1) ∨ (se.1 2 = 0 ∧ m.1 13 = 4 ∧ ((se.1 1 = 3 ∧ m.1 14 = 3) ∨ (se.1 1 = 4 ∧ m.1 14 = 4)) ∧ SEnd go m))
/-- a search, between two steps -/
def SRel (NL : List Nat) (Cs : List Part) (Q : Part) (AL : List Nat) (tx : Ob) (b : Int) (te go ch se m : Ob) : Prop := ∃ (E : List Sy) (chl : List Nat) (rp dp : Nat → Nat) (chs : List ChD), SCom NL Cs Q AL tx b E chl rp dp chs te go ch se m ∧ ((∃ GL, SLiv Cs Q AL E rp chs GL go se m ∧ ((GL ≠ [] ∧ se.1 1 = 2 ∧ m.1 13 = 1) ∨ (GL = [] ∧ se.1 1 = 1 ∧ m.1 13 = 2))) ∨ (se.1 2 = 1 ∧ ((chs ≠ [] ∧ se.1 1 = 2 ∧ m.1 13 = 3) ∨ (chs = [] ∧ se.1 1 = 0 ∧ m.1 13 = 4 ∧ m.1 14 = 0))) ∨ (se.1 2 = 0 ∧ m.1 13 = 4 ∧ ((se.1 1 = 3 ∧ m.1 14 = 3) ∨ (se.1 1 = 4 ∧ m.1 14 = 4)) ∧ SEnd go m))
theorem SRes_Pre {NL : List Nat} {Cs : List Part} {Q : Part} {AL : List Nat} {tx : Ob} {b : Int} {chs : List ChD} {te go ch se m : Ob} (h : SRes NL Cs Q AL tx b chs te go ch se m) : SPre NL Cs Q AL tx b te go ch se m := by
  obtain ⟨E, chl, rp, dp, h1, h2⟩ := h
  refine ⟨E, chl, rp, dp, chs, h1, ?_⟩
  rcases h2 with w | w | ⟨w1, w2, w3, w4, w5⟩
  · exact Or.inl w
  · exact Or.inr (Or.inl w)
  · exact Or.inr (Or.inr ⟨w1, w3, Or.inr ⟨w2, w4⟩, w5⟩)
theorem SCom_se {NL : List Nat} {Cs : List Part} {Q : Part} {AL : List Nat} {tx : Ob} {b : Int} {E : List Sy} {chl : List Nat} {rp dp : Nat → Nat} {chs : List ChD} {te go ch se se' m m' : Ob} (h : SCom NL Cs Q AL tx b E chl rp dp chs te go ch se m) (e0 : se'.1 0 = se.1 0) (e2 : se'.2 = se.2) (e3 : se'.1 3 = se.1 3) (e4 : se'.1 4 = se.1 4) (f : rmf m m') (g15 : m'.1 15 = m.1 15) (g16 : m'.1 16 = m.1 16) (ga : m'.2.1 15 = m.2.1 15 ∧ m'.2.1 16 = m.2.1 16) : SCom NL Cs Q AL tx b E chl rp dp chs te go ch se' m' := by
  obtain ⟨h1, h2, h3, h4, h5, h6, h7, h8, h9, h10, h11, h12, h13, h14⟩ := h
  refine ⟨h1, ?_, h3, ?_, Stc_rmf h5 f, h6, by rw [e0]; exact h7, fun v hv => by rw [e2]; exact h8 v hv, by rw [e3, g16]; exact h9, by rw [e4, g15]; exact h10, by rw [e4]; exact h11, by rw [e4]; exact h12, h13, h14⟩
  · refine ChOk_mono ⟨[], (List.append_nil _).symm⟩ (TrU_refl _ _ _) (Int.le_refl _) (fun _ _ _ => ⟨rfl, rfl, rfl⟩) (fun i _ _ => ⟨fun _ _ => rfl, ?_, ?_⟩) (fun d _ y _ _ => ⟨by rw [ga.1], by rw [ga.2]⟩) h2
    · rw [f.2.1 17 (by decide) (by decide) (by decide) (by decide) (by decide) (by decide) (by decide) (by decide)]
    · rw [f.2.1 18 (by decide) (by decide) (by decide) (by decide) (by decide) (by decide) (by decide) (by decide)]
  · rw [f.1 17 (by decide) (by decide) (by decide) (by decide) (by decide) (by decide) (by decide)]; exact h4
theorem rmf_refl (m : Ob) : rmf m m := ⟨fun _ _ _ _ _ _ _ _ => rfl, fun _ _ _ _ _ _ _ _ _ => rfl, rfl⟩
theorem RefL_I {FL : List Frm} {GL : List (Nat × Nat)} {rp : Nat → Nat} {s : List (Nat × Nat)} {m : Ob} {k : Nat} {v : Int} (h : RefL FL GL rp s m) (hk : k ≠ 18) : RefL FL GL rp s (sI m k v) := by
  obtain ⟨BL, h1, h2, h3, h4⟩ := h
  exact ⟨BL, h1, h2, ⟨h3.1, (if_neg (fun e => hk e.symm)).trans h3.2⟩, h4⟩
theorem fin_sim {NL : List Nat} {Cs : List Part} {Q : Part} {AL : List Nat} {tx : Ob} {b : Int} {nm pr te go ch se : Ob} {K : Ob → Ob → Ob → Ob → Prop} {REF : (Ob → Prop) → Prop} (hev : ∀ Kr : Ob → Prop, (∀ m1, SPre NL Cs Q AL tx b te go ch se m1 → Kr m1) → REF Kr) (hK : ∀ se', (∀ Kr : Ob → Prop, (∀ m2, SRel NL Cs Q AL tx b te go ch se' m2 → Kr m2) → REF (fun m1 => M_step_19 m1 Kr)) → K te go ch se') : Sea_step_29 nm pr te go ch se K := by
  -- nothing changes
  have same : (se.1 1 = 2 → se.1 2 = 0 → ¬ go.1 1 = -1) → (se.1 1 = 2 → ¬ se.1 2 = 0 → ¬ ch.1 0 = 0) → K te go ch se := fun n1 n2 => hK se (fun Kr hKr => hev _ (fun m1 hp => by
    obtain ⟨E, chl, rp, dp, chs, hS, hm⟩ := hp
    rcases hm with ⟨a1, a2, a3⟩ | ⟨GL, a1, a2, a3⟩ | ⟨a1, a2, a3, a4⟩
    · have hc : chs ≠ [] := fun e => by
        have := hS.2.2.1
        rw [e] at this
        exact n2 a2 (by omega) this
      have hk := hKr m1 ⟨E, chl, rp, dp, chs, hS, Or.inr (Or.inl ⟨a1, Or.inl ⟨hc, a2, a3⟩⟩)⟩
      refine ⟨fun _ => ⟨fun z => absurd a3 z, fun _ => ⟨fun _ => hk, fun z => ?_⟩⟩, fun z => by omega⟩
      have := hS.2.2.2.1
      rw [z] at this
      cases chs with
      | nil => exact absurd rfl hc
      | cons d l => rw [List.length_cons] at this; omega
    · have hg : GL ≠ [] := fun e => by
        obtain ⟨b1, s, FL, GLp, pre, -, -, -, -, b2, -⟩ := a1
        exact n1 a2 b1 ((GoL_neg b2.1).mpr e)
      have hk := hKr m1 ⟨E, chl, rp, dp, chs, hS, Or.inl ⟨GL, a1, Or.inl ⟨hg, a2, a3⟩⟩⟩
      refine ⟨fun z => absurd a3 z, fun _ => ⟨fun _ => ⟨fun _ => hk, fun z => by omega⟩, fun z => ?_⟩⟩
      obtain ⟨b1, s, FL, GLp, pre, -, -, -, -, -, ⟨BL, -, -, b2, -⟩, -⟩ := a1
      have := b2.2
      rw [z] at this
      cases GL with
      | nil => exact absurd rfl hg
      | cons d l => rw [List.length_cons] at this; omega
    · have hk := hKr m1 ⟨E, chl, rp, dp, chs, hS, Or.inr (Or.inr ⟨a1, a2, a3, a4⟩)⟩
      exact ⟨fun _ => ⟨fun _ => hk, fun z => by omega⟩, fun z => by omega⟩))
  refine ⟨fun h1 => ⟨fun h2 => ⟨fun z => absurd h2 z, fun _ => ?_⟩, fun h2 => ?_⟩, fun h1 => same (fun z => absurd z h1) (fun z => absurd z h1)⟩
  · show (¬ go.1 1 = -1 → K te go ch se) ∧ (go.1 1 = -1 → K te go ch (sI se 1 1))
    refine ⟨fun z => same (fun _ _ => z) (fun _ w => absurd h2 w), fun z => hK _ (fun Kr hKr => hev _ (fun m1 hp => ?_))⟩
    obtain ⟨E, chl, rp, dp, chs, hS, hm⟩ := hp
    rcases hm with ⟨a1, a2, a3⟩ | ⟨GL, a1, a2, a3⟩ | ⟨a1, a2, a3, a4⟩
    · omega
    · have a10 := a1
      obtain ⟨b1, s, FL, GLp, pre, c1, c2, c3, c4, c5, c6, c7, c8, c9, c10⟩ := a1
      have hg : GL = [] := (GoL_neg c5.1).mp z
      have h18 : m1.1 18 = 0 := by
        obtain ⟨BL, -, -, d, -⟩ := c6
        rw [d.2, hg]; rfl
      refine ⟨fun w => absurd a3 w, fun _ => ⟨fun w => absurd h18 w, fun _ => hKr _ ⟨E, chl, rp, dp, chs, SCom_se hS rfl rfl rfl rfl (rmf_I (Or.inl rfl)) rfl rfl ⟨rfl, rfl⟩, Or.inl ⟨GL, ⟨b1, s, FL, GLp, pre, c1, c2, c3, c4, c5, RefL_I c6 (by decide), c7, c8, c9, c10⟩, Or.inr ⟨hg, rfl, rfl⟩⟩⟩⟩⟩
    · rcases a3 with ⟨w, -⟩ | ⟨w, -⟩ <;> omega
  · show (¬ ch.1 0 = 0 → Sea_step_63 nm pr te go ch se K) ∧ (ch.1 0 = 0 → K te go ch (sI se 1 0))
    refine ⟨fun z => ⟨fun _ => same (fun _ w => absurd w h2) (fun _ _ => z), fun w => absurd w h2⟩, fun z => hK _ (fun Kr hKr => hev _ (fun m1 hp => ?_))⟩
    obtain ⟨E, chl, rp, dp, chs, hS, hm⟩ := hp
    rcases hm with ⟨a1, a2, a3⟩ | ⟨GL, a1, a2, a3⟩ | ⟨a1, a2, a3, a4⟩
    · have hc : chs = [] := by
        have := hS.2.2.1
        cases chs with
        | nil => rfl
        | cons d l => rw [List.length_cons] at this; omega
      have h17 : m1.1 17 = 0 := by rw [hS.2.2.2.1, hc]; rfl
      refine ⟨fun _ => ⟨fun w => absurd a3 w, fun _ => ⟨fun w => absurd h17 w, fun _ => hKr _ ⟨E, chl, rp, dp, chs, SCom_se hS rfl rfl rfl rfl (rmf_trans (rmf_I (Or.inl rfl)) (rmf_I (Or.inr (Or.inl rfl)))) rfl rfl ⟨rfl, rfl⟩, Or.inr (Or.inl ⟨a1, Or.inr ⟨hc, rfl, rfl, rfl⟩⟩)⟩⟩⟩, fun w => by omega⟩
    · exact absurd a1.1 h2
    · exact absurd a1 h2
theorem sp_wordOf {NL : List Nat} {nm : Ob} {e : Sy} {K : Nat → Prop} (hn : nmKp nm NL) (h0 : e.1 = 0) (h1 : e.2 ≠ 1) (h2 : e.2 ≠ 2) (hm : e.2 ∈ NL) (hK : K e.2) : wp_Nam_wordOf (cs NL e) nm K := by
  have ec : cs NL e = (3 + (idx NL e.2 : Int)) * 8 + 0 := by
    unfold cs sC
    rw [if_neg (by omega), if_neg (by omega), if_neg (by omega), if_neg h1, if_neg h2, h0]
  have hi := idx_lt hm
  obtain ⟨⟨n1, n2, n3⟩, -⟩ := hn
  rw [ec]
  have ed : ((3 + (idx NL e.2 : Int)) * 8 + 0) / 8 - 3 = (idx NL e.2 : Int) := by omega
  unfold wp_Nam_wordOf
  rw [ed]
  refine ⟨by omega, ⟨by omega, by omega⟩, fun z => by omega, fun _ => ⟨fun z => by omega, fun _ => ⟨⟨by omega, by omega⟩, ?_⟩⟩⟩
  rw [n3 _ hi.1, hi.2]
  exact hK
theorem Inc_filter {c : Nat} {l : List Nat} (h : Inc (c :: l)) : (c :: l).filter (fun d => decide (c < d)) = l := by
  unfold Inc at h
  rw [List.pairwise_cons] at h
  rw [List.filter_cons_of_neg (by simp)]
  exact List.filter_eq_self.mpr (fun d hd => decide_eq_true (h.1 d hd))
