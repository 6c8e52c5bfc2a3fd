/-! run, both sides together -/
/-- an answer is left behind -/
def SAns (NL : List Nat) (Cs : List Part) (Q : Part) (AL : List Nat) (tx : Ob) (b : Int) (te go ch se m : Ob) : Prop := ∃ (E : List Sy) (chl : List Nat) (rp dp : Nat → Nat) (chs : List ChD), SCom NL Cs Q AL tx b E chl rp dp chs te go ch se m ∧ se.1 2 = 1 ∧ chs ≠ [] ∧ se.1 1 = 2 ∧ m.1 13 = 2
section RUN
variable {NL : List Nat} {Cs : List Part} {Q : Part} {AL : List Nat} {tx : Ob}
theorem SRel_mono {b b' : Int} {te go ch se m : Ob} (hb : b ≤ b') (h : SRel NL Cs Q AL tx b te go ch se m) : SRel NL Cs Q AL tx b' te go ch se m := by
  obtain ⟨E, chl, rp, dp, chs, ⟨a1, a2, a3, a4, a5, a6, a7, a8, a9, a10, a11, a12, a13, a14⟩, hm⟩ := h
  exact ⟨E, chl, rp, dp, chs, ⟨a1, a2, a3, a4, a5, ⟨a6.1, by have := a6.2.1; omega, a6.2.2⟩, a7, a8, a9, a10, a11, by omega, a13, a14⟩, hm⟩
theorem SRel_st {b : Int} {te go ch se m : Ob} (h : SRel NL Cs Q AL tx b te go ch se m) : (se.1 1 = 2 ∧ (m.1 13 = 1 ∨ m.1 13 = 3)) ∨ (se.1 1 = 1 ∧ m.1 13 = 2) ∨ (se.1 1 ≠ 1 ∧ se.1 1 ≠ 2 ∧ m.1 13 = 4 ∧ m.1 14 = se.1 1) := by
  obtain ⟨E, chl, rp, dp, chs, hS, hm⟩ := h
  rcases hm with ⟨GL, -, ⟨-, a, b⟩ | ⟨-, a, b⟩⟩ | ⟨-, ⟨-, a, b⟩ | ⟨-, a, b, c⟩⟩ | ⟨-, b, ⟨a, c⟩ | ⟨a, c⟩, -⟩
  · exact Or.inl ⟨a, Or.inl b⟩
  · exact Or.inr (Or.inl ⟨a, b⟩)
  · exact Or.inl ⟨a, Or.inr b⟩
  · exact Or.inr (Or.inr ⟨by omega, by omega, b, by omega⟩)
  · exact Or.inr (Or.inr ⟨by omega, by omega, b, by omega⟩)
  · exact Or.inr (Or.inr ⟨by omega, by omega, b, by omega⟩)
theorem step_sim {nm pr : Ob} (hnm : nmKp nm NL) (hPr : PrOk NL Cs pr) (hne : ∀ p ∈ Cs, p.1 ≠ []) {b : Int} {te go ch se m : Ob} {K : Ob → Ob → Ob → Ob → Prop} (h : SRel NL Cs Q AL tx b te go ch se m ∨ SAns NL Cs Q AL tx b te go ch se m) (h1 : se.1 1 = 2) (hb : b ≤ 900000) (hK : ∀ te1 go1 ch1 se1 m1, SRel NL Cs Q AL tx (b + 2) te1 go1 ch1 se1 m1 → (∀ Kr : Ob → Prop, Kr m1 → wp_M_step m Kr) → K te1 go1 ch1 se1) : wp_Sea_step nm pr te go ch se K := by
  have fin : ∀ te1 go1 ch1 se1, (∀ Kr : Ob → Prop, (∀ m2, SRel NL Cs Q AL tx (b + 2) te1 go1 ch1 se1 m2 → Kr m2) → wp_M_step m Kr) → K te1 go1 ch1 se1 := fun te1 go1 ch1 se1 hev => by
    obtain ⟨m1, q1, q2⟩ := dt_wp_M_step m _ (hev (fun m2 => SRel NL Cs Q AL tx (b + 2) te1 go1 ch1 se1 m2) (fun _ q => q))
    exact hK te1 go1 ch1 se1 m1 q1 q2
  have back : ∀ (E : List Sy) (chl : List Nat) (rp dp : Nat → Nat) (chs : List ChD), SCom NL Cs Q AL tx b E chl rp dp chs te go ch se m → se.1 2 = 1 → chs ≠ [] → m.1 13 ≠ 1 → wp_Sea_step nm pr te go ch se K := fun E chl rp dp chs hS h2 hc h13 => by
    cases chs with
    | nil => exact absurd rfl hc
    | cons d chs => exact choice_sim hPr hne hS h2 h1 hb (fun te1 go1 ch1 se1 hev => fin te1 go1 ch1 se1 (fun Kr hKr => ⟨fun _ => hev Kr hKr, fun z => absurd z h13⟩))
  rcases h with ⟨E, chl, rp, dp, chs, hS, hm⟩ | ⟨E, chl, rp, dp, chs, hS, a1, a2, a3, a4⟩
  · rcases hm with ⟨GL, hl, ⟨hg, a, b13⟩ | ⟨-, a, b13⟩⟩ | ⟨h2, ⟨hc, a, b13⟩ | ⟨-, a, b13, c⟩⟩ | ⟨-, b13, ⟨a, c⟩ | ⟨a, c⟩, -⟩
    · cases GL with
      | nil => exact absurd rfl hg
      | cons q rest => exact goal_sim hnm hPr hne hS hl h1 b13 hb (fun te1 go1 ch1 se1 hev => fin te1 go1 ch1 se1 hev)
    · omega
    · exact back E chl rp dp chs hS h2 hc (by omega)
    · omega
    · omega
    · omega
  · exact back E chl rp dp chs hS a1 a2 (by omega)
theorem run_loop {nm pr : Ob} (hnm : nmKp nm NL) (hPr : PrOk NL Cs pr) (hne : ∀ p ∈ Cs, p.1 ≠ []) {x1 : Int} (hx : x1 ≤ 100) {wr : Ob} {K : Int → Ob → Ob → Ob → Ob → Ob → Prop} : ∀ (r : Nat) (b x2 : Int) (te go ch se m : Ob), ((SRel NL Cs Q AL tx b te go ch se m ∧ se.1 1 ≠ 1) ∨ (SAns NL Cs Q AL tx b te go ch se m ∧ 0 < r)) → x2 + (r : Int) = x1 → 0 ≤ x2 → b + 2 * (r : Int) ≤ 900000 → (∀ te1 go1 ch1 se1 m1 v, SRel NL Cs Q AL tx (b + 2 * (r : Int)) te1 go1 ch1 se1 m1 → (∀ Kr : Int → Ob → Prop, Kr v m1 → M_run_42 (r + 1) x1 x2 m Kr) → K v te1 go1 ch1 se1 wr) → Sea_goOn_41 (r + 1) x1 x2 nm pr te go ch se wr K := by
  intro r
  induction r with
  | zero =>
    intro b x2 te go ch se m h e0 e1 hb hK
    rcases h with ⟨h, hn1⟩ | ⟨-, z⟩
    · refine ⟨fun _ => hK te go ch se m _ (SRel_mono (by omega) h) (fun Kr k => ⟨fun _ => ?_, fun z => by omega⟩), fun z => by omega⟩
      rcases SRel_st h with ⟨a, c⟩ | ⟨a, c⟩ | ⟨-, -, a, c⟩
      · rw [a] at k
        exact ⟨fun _ => k, fun z => by omega⟩
      · exact absurd a hn1
      · rw [← c] at k
        exact ⟨fun z => absurd a z, fun _ => k⟩
    · exact absurd z (Nat.lt_irrefl 0)
  | succ r ih =>
    intro b x2 te go ch se m h e0 e1 hb hK
    refine ⟨fun z => by omega, fun hlt => ⟨fun hn2 => ?_, fun h2 => ?_⟩⟩
    · rcases h with ⟨h, hn1⟩ | ⟨⟨E, chl, rp, dp, chs, hS, a1, a2, a3, a4⟩, -⟩
      · refine hK te go ch se m _ (SRel_mono (by omega) h) (fun Kr k => ⟨fun z => absurd z hlt, fun _ => ?_⟩)
        rcases SRel_st h with ⟨a, c⟩ | ⟨a, c⟩ | ⟨-, -, a, c⟩
        · exact absurd a hn2
        · exact absurd a hn1
        · rw [← c] at k
          exact ⟨fun _ => ⟨fun z => absurd a z, fun _ => k⟩, fun z => absurd a z⟩
      · exact absurd a3 hn2
    · have h13 : m.1 13 ≠ 4 := by
        rcases h with ⟨h, hn1⟩ | ⟨⟨E, chl, rp, dp, chs, hS, a1, a2, a3, a4⟩, -⟩
        · rcases SRel_st h with ⟨a, c⟩ | ⟨a, c⟩ | ⟨-, a, -, c⟩
          · omega
          · omega
          · exact absurd h2 a
        · omega
      refine step_sim hnm hPr hne (by rcases h with ⟨h, -⟩ | ⟨h, -⟩; exact Or.inl h; exact Or.inr h) h2 (by omega) (fun te1 go1 ch1 se1 m1 hr hev => ⟨⟨by omega, by omega⟩, ?_⟩)
      by_cases e : se1.1 1 = 1
      · have h2' : m1.1 13 = 2 := by
          rcases SRel_st hr with ⟨a, c⟩ | ⟨a, c⟩ | ⟨a, -, -, c⟩
          · omega
          · exact c
          · exact absurd e a
        have kk : Sea_goOn_64 nm pr te1 go1 ch1 se1 wr K := by
          refine hK te1 go1 ch1 se1 m1 _ (SRel_mono (by omega) hr) (fun Kr k => ⟨fun z => absurd z hlt, fun _ => ⟨fun z => absurd z h13, fun _ => hev _ ⟨fun z => absurd h2' z, fun _ => ?_⟩⟩⟩)
          rw [e] at k
          exact k
        exact ⟨fun _ => kk, fun _ => ⟨fun _ => kk, fun z => by omega⟩⟩
      · refine ih (b + 2) (x2 + 1) te1 go1 ch1 se1 m1 (Or.inl ⟨hr, e⟩) (by omega) (by omega) (by omega) (fun te2 go2 ch2 se2 m2 v hr2 hev2 => hK te2 go2 ch2 se2 m2 v (SRel_mono (by omega) hr2) (fun Kr k => ⟨fun z => absurd z hlt, fun _ => ⟨fun z => absurd z h13, fun _ => hev _ ⟨fun _ => ⟨⟨by omega, by omega⟩, hev2 Kr k⟩, fun z => ?_⟩⟩⟩))
        rcases SRel_st hr with ⟨a, c⟩ | ⟨a, c⟩ | ⟨-, -, c, -⟩
        · omega
        · exact absurd a e
        · omega
theorem run_ok {nm pr : Ob} (hnm : nmKp nm NL) (hPr : PrOk NL Cs pr) (hne : ∀ p ∈ Cs, p.1 ≠ []) {b x : Int} {te go ch se wr m : Ob} {R : Ob → Ob → Ob → Ob → Ob → Ob → Prop} (hRR : ∀ te' go' ch' se' wr' m', SRel NL Cs Q AL tx (b + 200) te' go' ch' se' m' → ((wr' = wr ∧ te' = te ∧ go' = go ∧ ch' = ch ∧ se' = se ∧ m' = m) ∨ (wr' = wr ∧ se.1 1 ≠ 1) ∨ wr' = sI (sI (sI wr 0 0) 1 0) 3 0) → R te' go' ch' se' wr' m') (h : SRel NL Cs Q AL tx b te go ch se m) (hb : b ≤ 800000) : wp_P_run x nm pr te go ch se wr (fun r te' go' ch' se' wr' => wp_M_run x m (fun r' m' => r = r' ∧ R te' go' ch' se' wr' m')) := by
  have h0 : m.1 13 ≠ 0 := by
    rcases SRel_st h with ⟨a, c⟩ | ⟨a, c⟩ | ⟨-, -, c, -⟩ <;> omega
  refine ⟨fun z => ⟨fun w => absurd w h0, fun _ => ⟨fun _ => ⟨rfl, hRR _ _ _ _ _ _ (SRel_mono (by omega) h) (Or.inl ⟨rfl, rfl, rfl, rfl, rfl, rfl⟩)⟩, fun w => absurd z w⟩⟩, fun x1 => ⟨fun x2 => ?_, fun z => ⟨fun w => absurd w h0, fun _ => ⟨fun w => absurd w x1, fun _ => ⟨fun w => absurd w z, fun _ => ⟨rfl, hRR _ _ _ _ _ _ (SRel_mono (by omega) h) (Or.inl ⟨rfl, rfl, rfl, rfl, rfl, rfl⟩)⟩⟩⟩⟩⟩⟩
  have e0 : (0 : Int) + (x.toNat : Int) = x := by omega
  have hpos : 0 < x.toNat := by omega
  refine ⟨fun hn1 => ?_, fun h1 => ?_⟩
  · have h2 : m.1 13 ≠ 2 := by
      rcases SRel_st h with ⟨a, c⟩ | ⟨a, c⟩ | ⟨-, -, c, -⟩
      · omega
      · exact absurd a hn1
      · omega
    exact ⟨x.toNat + 1, run_loop hnm hPr hne x2 x.toNat b 0 te go ch se m (Or.inl ⟨h, hn1⟩) e0 (Int.le_refl _) (by omega) (fun te1 go1 ch1 se1 m1 v hr hev => ⟨fun w => absurd w h0, fun _ => ⟨fun w => absurd w x1, fun _ => ⟨fun _ => ⟨fun _ => ⟨x.toNat + 1, hev _ ⟨rfl, hRR _ _ _ _ _ _ (SRel_mono (by omega) hr) (Or.inr (Or.inl ⟨rfl, hn1⟩))⟩⟩, fun w => absurd w h2⟩, fun w => absurd x2 w⟩⟩⟩)⟩
  · have h2 : m.1 13 = 2 := by
      rcases SRel_st h with ⟨a, c⟩ | ⟨a, c⟩ | ⟨a, -, -, -⟩
      · omega
      · exact c
      · exact absurd h1 a
    have h' := h
    obtain ⟨E, chl, rp, dp, chs, hS, hm⟩ := h'
    have hc0 : ch.1 0 = (chs.length : Int) := hS.2.2.1
    have h17 : m.1 17 = (chs.length : Int) := hS.2.2.2.1
    refine ⟨fun hn => ?_, fun hz => ?_⟩
    · have hc : chs ≠ [] := fun e => hn (by rw [hc0, e]; rfl)
      refine ⟨x.toNat + 1, run_loop hnm hPr hne x2 x.toNat b 0 te go ch _ m (Or.inr ⟨⟨E, chl, rp, dp, chs, SCom_se hS rfl rfl rfl rfl (rmf_refl m) rfl rfl ⟨rfl, rfl⟩, rfl, hc, rfl, h2⟩, hpos⟩) e0 (Int.le_refl _) (by omega) (fun te1 go1 ch1 se1 m1 v hr hev => ⟨fun w => absurd w h0, fun _ => ⟨fun w => absurd w x1, fun _ => ⟨fun _ => ⟨fun w => absurd h2 w, fun _ => ⟨fun _ => ⟨x.toNat + 1, hev _ ⟨rfl, hRR _ _ _ _ _ _ (SRel_mono (by omega) hr) (Or.inr (Or.inr rfl))⟩⟩, fun w => ?_⟩⟩, fun w => absurd x2 w⟩⟩⟩)⟩
      exact absurd (by omega) hn
    · have hc : chs = [] := by
        cases chs with
        | nil => rfl
        | cons d l => rw [List.length_cons] at hc0; omega
      refine ⟨x.toNat + 1, run_loop hnm hPr hne x2 x.toNat b 0 te go ch _ (sI (sI m 13 4) 14 0) (Or.inl ⟨⟨E, chl, rp, dp, chs, SCom_se hS rfl rfl rfl rfl (rmf_trans (rmf_I (Or.inl rfl)) (rmf_I (Or.inr (Or.inl rfl)))) rfl rfl ⟨rfl, rfl⟩, Or.inr (Or.inl ⟨rfl, Or.inr ⟨hc, rfl, rfl, rfl⟩⟩)⟩, by show (0 : Int) ≠ 1; decide⟩) e0 (Int.le_refl _) (by omega) (fun te1 go1 ch1 se1 m1 v hr hev => ⟨fun w => absurd w h0, fun _ => ⟨fun w => absurd w x1, fun _ => ⟨fun _ => ⟨fun w => absurd h2 w, fun _ => ⟨fun w => ?_, fun _ => ⟨x.toNat + 1, hev _ ⟨rfl, hRR _ _ _ _ _ _ (SRel_mono (by omega) hr) (Or.inr (Or.inr rfl))⟩⟩⟩⟩, fun w => absurd x2 w⟩⟩⟩)⟩
      exact absurd (by rw [h17, hc]; rfl) w
end RUN
