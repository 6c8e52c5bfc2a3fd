/-! the relation of both sides, and the small calls -/
/-- a search between two steps, with its cells and stands -/
def SRelE (NL : List Nat) (Cs : List Part) (Q : Part) (AL : List Nat) (tx : Ob) (b : Int) (E : List Sy) (rp : Nat → Nat) (te go ch se m : Ob) : Prop := ∃ (chl : List Nat) (dp : Nat → Nat) (chs : List ChD), SCom NL Cs Q AL tx b E chl rp dp chs te go ch se m ∧ ((∃ GL, SLiv Cs Q AL E rp chs GL go se m ∧ ((GL ≠ [] ∧ se.1 1 = 2 ∧ m.1 13 = 1) ∨ (GL = [] ∧ se.1 1 = 1 ∧ m.1 13 = 2))) ∨ (se.1 2 = 1 ∧ ((chs ≠ [] ∧ se.1 1 = 2 ∧ m.1 13 = 3) ∨ (chs = [] ∧ se.1 1 = 0 ∧ m.1 13 = 4 ∧ m.1 14 = 0))) ∨ (se.1 2 = 0 ∧ m.1 13 = 4 ∧ ((se.1 1 = 3 ∧ m.1 14 = 3) ∨ (se.1 1 = 4 ∧ m.1 14 = 4)) ∧ SEnd go m))
section REL
variable {NL : List Nat} {Cs : List Part} {Q : Part} {AL : List Nat} {tx tx' : Ob} {b : Int} {E : List Sy} {rp : Nat → Nat} {te go ch se m m' : Ob}
theorem SRelE_S (h : SRelE NL Cs Q AL tx b E rp te go ch se m) : SRel NL Cs Q AL tx b te go ch se m := by
  obtain ⟨chl, dp, chs, h1, h2⟩ := h
  exact ⟨E, chl, rp, dp, chs, h1, h2⟩
theorem SRel_E (h : SRel NL Cs Q AL tx b te go ch se m) : ∃ E rp, SRelE NL Cs Q AL tx b E rp te go ch se m := by
  obtain ⟨E, chl, rp, dp, chs, h1, h2⟩ := h
  exact ⟨E, rp, chl, dp, chs, h1, h2⟩
theorem SRelE_mono {b' : Int} (hb : b ≤ b') (h : SRelE NL Cs Q AL tx b E rp te go ch se m) : SRelE NL Cs Q AL tx b' E rp te go ch se m := by
  obtain ⟨chl, dp, chs, ⟨a1, a2, a3, a4, a5, a6, a7, a8, a9, a10, a11, a12, a13, a14⟩, hm⟩ := h
  exact ⟨chl, dp, chs, ⟨a1, a2, a3, a4, a5, ⟨a6.1, by have := a6.2.1; omega, a6.2.2⟩, a7, a8, a9, a10, a11, by omega, a13, a14⟩, hm⟩
/-- what the text and the answer's writing may change in the reference -/
def xfr (m m' : Ob) : Prop := (∀ j, j ≠ 0 → j ≠ 19 → j ≠ 20 → j ≠ 21 → j ≠ 22 → m'.1 j = m.1 j) ∧ (∀ j, j ≠ 0 → j ≠ 24 → j ≠ 25 → j ≠ 26 → m'.2.1 j = m.2.1 j) ∧ m'.2.2 = m.2.2
theorem SRelE_fr (h : SRelE NL Cs Q AL tx b E rp te go ch se m) (f : xfr m m') (hT : RText tx' m') : SRelE NL Cs Q AL tx' b E rp te go ch se m' := by
  obtain ⟨chl, dp, chs, ⟨a1, a2, a3, a4, a5, a6, a7, a8, a9, a10, a11, a12, a13, a14⟩, hm⟩ := h
  obtain ⟨b1, b2, b3, b4, b5, b6, b7, b8, b9, b10, b11, b12, b13⟩ := a5
  obtain ⟨f1, f2, f3⟩ := f
  have i : ∀ j, 10 ≤ j → j ≤ 18 → m'.1 j = m.1 j := fun j h1 h2 => f1 j (by omega) (by omega) (by omega) (by omega) (by omega)
  have a : ∀ j, 10 ≤ j → j ≤ 23 → m'.2.1 j = m.2.1 j := fun j h1 h2 => f2 j (by omega) (by omega) (by omega) (by omega)
  have mc : ∀ (c : Int) (P : Part), MCl m c P → MCl m' c P := fun c P q => by
    unfold MCl at q ⊢
    rw [a 10 (by decide) (by decide), a 11 (by decide) (by decide), a 12 (by decide) (by decide), a 13 (by decide) (by decide), f3]
    exact q
  have lv : ∀ GL, SLiv Cs Q AL E rp chs GL go se m → SLiv Cs Q AL E rp chs GL go se m' := fun GL q => by
    obtain ⟨c1, s, FL, GLp, pre, d1, d2, d3, d4, d5, ⟨BL, e1, e2, e3, e4⟩, d7, d8, d9, d10⟩ := q
    refine ⟨c1, s, FL, GLp, pre, d1, d2, d3, d4, d5, ⟨BL, ?_, e2, ⟨?_, ?_⟩, ?_⟩, d7, d8, d9, d10⟩
    · unfold BdOk at e1 ⊢
      rw [a 22 (by decide) (by decide), a 23 (by decide) (by decide)]
      exact e1
    · rw [a 19 (by decide) (by decide), a 20 (by decide) (by decide), a 21 (by decide) (by decide)]
      exact e3.1
    · rw [i 18 (by decide) (by decide)]; exact e3.2
    · rw [a 15 (by decide) (by decide), a 16 (by decide) (by decide)]; exact e4
  refine ⟨chl, dp, chs, ⟨a1, ?_, a3, by rw [i 17 (by decide) (by decide)]; exact a4, ⟨fun c hc => mc _ _ (b1 c hc), mc _ _ b2, b3, b4, b5, by rw [i 10 (by decide) (by decide)]; exact b6, by rw [i 12 (by decide) (by decide)]; exact b7, b8, fun v hv => by rw [a 14 (by decide) (by decide)]; exact b9 v hv, b10, hT, by rw [i 11 (by decide) (by decide)]; exact b12, by rw [f3]; exact b13⟩, a6, a7, a8, by rw [i 16 (by decide) (by decide)]; exact a9, by rw [i 15 (by decide) (by decide)]; exact a10, a11, a12, a13, a14⟩, ?_⟩
  · exact ChOk_mono ⟨[], (List.append_nil _).symm⟩ (TrU_refl _ _ _) (Int.le_refl _) (fun _ _ _ => ⟨rfl, rfl, rfl⟩) (fun j _ _ => ⟨fun _ _ => rfl, by rw [a 17 (by decide) (by decide)], by rw [a 18 (by decide) (by decide)]⟩) (fun d _ y _ _ => ⟨by rw [a 15 (by decide) (by decide)], by rw [a 16 (by decide) (by decide)]⟩) a2
  · unfold SEnd
    rw [i 13 (by decide) (by decide), i 14 (by decide) (by decide), i 18 (by decide) (by decide)]
    rcases hm with ⟨GL, q1, q2⟩ | q | q
    · exact Or.inl ⟨GL, lv GL q1, q2⟩
    · exact Or.inr (Or.inl q)
    · exact Or.inr (Or.inr q)
end REL
/-- the relation; W says what a written answer looks like -/
def RlW (W : List Nat → List Sy → (Nat → Nat) → List Nat → Ob → Prop) (i : Nat) (tx _tk nm pr _rc _rd te go ch se wr m : Ob) : Prop := ∃ (NL : List Nat) (Cs : List Part), Base i NL Cs tx nm pr te m ∧ 0 ≤ ch.1 0 ∧ (SN te go ch se wr m ∨ ∃ Q AL E rp, SRelE NL Cs Q AL tx (200 * (i : Int)) E rp te go ch se m ∧ (wr.1 3 = 0 ∨ (wr.1 3 = 1 ∧ se.1 1 = 1 ∧ W NL E rp AL wr)))
section JS
variable {W : List Nat → List Sy → (Nat → Nat) → List Nat → Ob → Prop}
theorem TeB_mono {i : Nat} {te : Ob} (h : TeB i te) : TeB (i + 1) te := by
  obtain ⟨h1, h2, h3, h4, h5, h6⟩ := h
  exact ⟨h1, h2, h3, h4, by omega, h6⟩
theorem Base_mono {i : Nat} {NL : List Nat} {Cs : List Part} {tx nm pr te m : Ob} (h : Base i NL Cs tx nm pr te m) : Base (i + 1) NL Cs tx nm pr te m := ⟨h.1, h.2.1, h.2.2.1, h.2.2.2.1, TeB_mono h.2.2.2.2⟩
theorem j_skip : J_skip (RlW W) := fun i o0 o1 o2 o3 o4 o5 o6 o7 o8 o9 o10 m h => by
  obtain ⟨NL, Cs, h1, h2, h3⟩ := h
  refine ⟨NL, Cs, Base_mono h1, h2, ?_⟩
  rcases h3 with h3 | ⟨Q, AL, E, rp, h3, h4⟩
  · exact Or.inl h3
  · exact Or.inr ⟨Q, AL, E, rp, SRelE_mono (by omega) h3, h4⟩
theorem j_type : J_type (RlW W) := fun i o0 o1 o2 o3 o4 o5 o6 o7 o8 o9 o10 m y _ h hy => by
  have hs := j_skip i o0 o1 o2 o3 o4 o5 o6 o7 o8 o9 o10 m h
  obtain ⟨NL, Cs, ⟨t1, t2, t3, t4, t5⟩, h2, h3⟩ := h
  have ht := t1
  obtain ⟨e1, e2, e3, e4⟩ := t1
  have same : ∀ v : Int, v = v ∧ RlW W (i + 1) o0 o1 o2 o3 o4 o5 o6 o7 o8 o9 o10 m := fun v => ⟨rfl, hs⟩
  refine sp_P_type ⟨e2, e3⟩ (fun k hk => ?_) (fun k hk hf => ?_) (fun k hk hf => ?_)
  · exact sp_M_type hy (by omega) (fun _ _ => same 0) (fun _ _ _ => same 0) (fun k' hk' _ => (Let_Bad hk' hk).elim)
  · exact sp_M_type hy (by omega) (fun _ _ => same 0) (fun _ _ _ => same 0) (fun k' hk' _ => absurd hf (by rw [Let_uniq hk hk']; omega))
  · refine sp_M_type hy (by omega) (fun k' hk' => (Let_Bad hk hk').elim) (fun k' hk' _ => absurd hf (by rw [Let_uniq hk hk']; omega)) (fun k' hk' _ => ?_)
    have ek := Let_uniq hk hk'
    subst ek
    have hr := RText_put ht hk hf
    refine ⟨rfl, NL, Cs, ⟨hr, t2, t3, MPr_eq t4 rfl rfl rfl rfl rfl rfl rfl rfl, TeB_mono t5⟩, h2, ?_⟩
    rcases h3 with h3 | ⟨Q, AL, E, rp, h3, h4⟩
    · exact Or.inl h3
    · exact Or.inr ⟨Q, AL, E, rp, SRelE_mono (by omega) (SRelE_fr h3 ⟨fun j z _ _ _ _ => if_neg z, fun j z _ _ _ => if_neg z, rfl⟩ hr), h4⟩
theorem j_clauses : J_clauses (RlW W) := fun i o0 o1 o2 o3 o4 o5 o6 o7 o8 o9 o10 m _ h => by
  have hs := j_skip i o0 o1 o2 o3 o4 o5 o6 o7 o8 o9 o10 m h
  obtain ⟨NL, Cs, ⟨t1, t2, t3, t4, t5⟩, h2, h3⟩ := h
  exact ⟨by rw [t3.2.1, t4.1], hs⟩
theorem j_tries : J_tries (RlW W) := fun i o0 o1 o2 o3 o4 o5 o6 o7 o8 o9 o10 m _ h => by
  have hs := j_skip i o0 o1 o2 o3 o4 o5 o6 o7 o8 o9 o10 m h
  obtain ⟨NL, Cs, t, h2, h3⟩ := h
  refine ⟨?_, hs⟩
  rcases h3 with h3 | ⟨Q, AL, E, rp, ⟨chl, dp, chs, h3, -⟩, -⟩
  · obtain ⟨-, -, -, n4, -, -, -, -, -, -, -, -, -, -, n15, -⟩ := h3
    omega
  · exact h3.2.2.2.2.2.2.2.2.2.1
theorem j_choices : J_choices (RlW W) := fun i o0 o1 o2 o3 o4 o5 o6 o7 o8 o9 o10 m _ h => by
  have hs := j_skip i o0 o1 o2 o3 o4 o5 o6 o7 o8 o9 o10 m h
  obtain ⟨NL, Cs, t, h2, h3⟩ := h
  refine ⟨?_, hs⟩
  rcases h3 with h3 | ⟨Q, AL, E, rp, ⟨chl, dp, chs, h3, -⟩, -⟩
  · obtain ⟨-, -, -, -, -, n6, -, -, -, -, -, -, -, -, -, -, n17, -⟩ := h3
    omega
  · rw [h3.2.2.1, h3.2.2.2.1]
theorem j_length : J_length (RlW W) := fun i o0 o1 o2 o3 o4 o5 o6 o7 o8 o9 o10 m _ h => by
  have hs := j_skip i o0 o1 o2 o3 o4 o5 o6 o7 o8 o9 o10 m h
  obtain ⟨NL, Cs, t, h2, h3⟩ := h
  refine ⟨?_, hs⟩
  rcases h3 with h3 | ⟨Q, AL, E, rp, ⟨chl, dp, chs, h3, -⟩, -⟩
  · obtain ⟨-, -, n3, -, -, -, -, -, -, -, -, -, -, -, -, n16, -⟩ := h3
    omega
  · exact h3.2.2.2.2.2.2.2.2.1
theorem sp_Gcount {go : Ob} {K : Int → Prop} (hu : go.1 0 ≤ 488) : ∀ {GL : List (Nat × Nat)} {p : Int} (k : Nat), GoL (go.2.1 0) (go.2.1 1) (go.2.1 2) (go.1 0) p GL → k + GL.length < 488 → K ((k + GL.length : Nat) : Int) → Goa_count_7 (GL.length + 1) (k : Int) p go K
  | [], p, k, h, _, hK => ⟨fun _ => hK, fun z => absurd h z⟩
  | q :: GL, p, k, h, hl, hK => by
    have h' := h
    obtain ⟨h1, h2, h3, h4, h5⟩ := h'
    rw [List.length_cons] at hl hK
    refine ⟨fun z => by omega, fun _ => ⟨fun z => by omega, fun _ => ⟨⟨by omega, by omega⟩, ?_⟩⟩⟩
    refine sp_after h hu (fun p' hp => ?_)
    exact sp_Gcount hu (k + 1) hp (by omega) (by rw [show k + 1 + GL.length = k + (GL.length + 1) by omega]; exact hK)
theorem j_goals : J_goals (RlW W) := fun i o0 o1 o2 o3 o4 o5 o6 o7 o8 o9 o10 m _ h => by
  have hs := j_skip i o0 o1 o2 o3 o4 o5 o6 o7 o8 o9 o10 m h
  obtain ⟨NL, Cs, t, h2, h3⟩ := h
  have cnt : ∀ GL : List (Nat × Nat), GoC o7 GL → o7.1 0 ≤ 488 → GL.length < 488 → (m.1 18 = (GL.length : Int)) → m.1 13 ≠ 3 → (m.1 13 = 4 → m.1 14 ≠ 0) → wp_Goa_count o7 (fun r => wp_M_goals m (fun r' => r = r' ∧ RlW W (i + 1) o0 o1 o2 o3 o4 o5 o6 o7 o8 o9 o10 m)) := fun GL g1 g2 g3 g4 g5 g6 => by
    refine ⟨GL.length + 1, sp_Gcount g2 0 g1.1 (by omega) ?_⟩
    rw [Nat.zero_add]
    have k : M_goals_27 m (fun r' => (GL.length : Int) = r' ∧ RlW W (i + 1) o0 o1 o2 o3 o4 o5 o6 o7 o8 o9 o10 m) := ⟨g4.symm, hs⟩
    exact ⟨fun z => absurd z g5, fun _ => ⟨fun _ => k, fun z => ⟨fun _ => k, fun w => absurd w (g6 z)⟩⟩⟩
  rcases h3 with h3 | ⟨Q, AL, E, rp, ⟨chl, dp, chs, h3, hm⟩, -⟩
  · obtain ⟨-, n2, -, -, -, -, n7, n8, -, -, -, -, -, n13, -, -, -, n18⟩ := h3
    exact ⟨fun _ => cnt [] ⟨n8, by omega⟩ (by omega) (by decide) n18 (by omega) (fun z => by omega), fun z => absurd n2 z⟩
  · obtain ⟨-, -, -, -, -, -, -, -, -, -, -, -, -, g488⟩ := h3
    rcases hm with ⟨GL, ⟨c1, s, FL, GLp, pre, d1, d2, d3, d4, d5, ⟨BL, -, -, e3, -⟩, -⟩, q2⟩ | ⟨q1, q2⟩ | ⟨q1, q2, q3, GL, q4, q5, q6⟩
    · have hl : GL.length ≤ 120 := by
        have := (Path_fr d1).2.2.2.2.2.2.2.2.1
        rw [d3, List.length_append] at this
        omega
      refine ⟨fun _ => cnt GL d5 g488 (by omega) e3.2 ?_ ?_, fun z => absurd c1 z⟩
      · rcases q2 with ⟨-, -, q⟩ | ⟨-, -, q⟩ <;> omega
      · rcases q2 with ⟨-, -, q⟩ | ⟨-, -, q⟩ <;> omega
    · refine ⟨fun z => by omega, fun _ => ?_⟩
      rcases q2 with ⟨-, -, q⟩ | ⟨-, -, q, q'⟩
      · exact ⟨fun _ => ⟨rfl, hs⟩, fun z => absurd q z⟩
      · exact ⟨fun z => by omega, fun _ => ⟨fun z => absurd q z, fun _ => ⟨fun z => absurd q' z, fun _ => ⟨rfl, hs⟩⟩⟩⟩
    · refine ⟨fun _ => cnt GL q4 g488 (by omega) q5 (by omega) (fun _ => ?_), fun z => absurd q1 z⟩
      rcases q3 with ⟨-, q⟩ | ⟨-, q⟩ <;> omega
theorem SN_ch {te go ch se wr m : Ob} (h : SN te go ch se wr m) : 0 ≤ ch.1 0 := by
  obtain ⟨-, -, -, -, -, n6, -⟩ := h
  omega
theorem j_forget : J_forget (RlW W) := fun i o0 o1 o2 o3 o4 o5 o6 o7 o8 o9 o10 m _ h => by
  obtain ⟨NL, Cs, t, h2, h3⟩ := h
  exact forget_ok (R := fun nm' pr' te' go' ch' se' wr' m' => RlW W (i + 1) o0 o1 nm' pr' o4 o5 te' go' ch' se' wr' m') (fun nm' pr' te' go' ch' se' wr' m' ⟨NL', Cs', hb⟩ hn => ⟨NL', Cs', Base_mono hb, SN_ch hn, Or.inl hn⟩) t h2
theorem j_consult : J_consult (RlW W) := fun i o0 o1 o2 o3 o4 o5 o6 o7 o8 o9 o10 m _ h => by
  obtain ⟨NL, Cs, t, h2, h3⟩ := h
  exact consult_ok (R := fun tx' tk' nm' pr' rc' rd' te' go' ch' se' wr' m' => RlW W (i + 1) tx' tk' nm' pr' rc' rd' te' go' ch' se' wr' m') (fun tx' tk' nm' pr' rc' rd' te' go' ch' se' wr' m' ⟨NL', Cs', hb⟩ hn => ⟨NL', Cs', Base_mono hb, SN_ch hn, Or.inl hn⟩) t h2
theorem j_ask : J_ask (RlW W) := fun i o0 o1 o2 o3 o4 o5 o6 o7 o8 o9 o10 m _ h => by
  obtain ⟨NL, Cs, t, h2, h3⟩ := h
  refine ask_ok (R := fun tx' tk' nm' rc' rd' te' go' ch' se' wr' m' => RlW W (i + 1) tx' tk' nm' o3 rc' rd' te' go' ch' se' wr' m') (fun tx' tk' nm' rc' rd' te' go' ch' se' wr' m' q => ?_) t h2
  rcases q with ⟨NL', Cs', hb, hn⟩ | ⟨NL', Q, AL, q1, q2, q3, q4, q5⟩
  · exact ⟨NL', Cs', Base_mono hb, SN_ch hn, Or.inl hn⟩
  · have hB := Base_of q1 q2 q3 q4
    obtain ⟨E, rp, q4'⟩ := SRel_E q4
    exact ⟨NL', Cs, Base_mono hB.1, hB.2, Or.inr ⟨Q, AL, E, rp, SRelE_mono (by omega) q4', Or.inl q5⟩⟩
theorem j_run : J_run (RlW W) := fun i o0 o1 o2 o3 o4 o5 o6 o7 o8 o9 o10 m x hi h _ => by
  have hs := j_skip i o0 o1 o2 o3 o4 o5 o6 o7 o8 o9 o10 m h
  obtain ⟨NL, Cs, t, h2, h3⟩ := h
  rcases h3 with h3 | ⟨Q, AL, E, rp, h3, h4⟩
  · have n1 : o9.1 1 = -1 := h3.1
    have n13 : m.1 13 = 0 := by
      obtain ⟨-, -, -, -, -, -, -, -, -, -, -, -, -, n13, -⟩ := h3
      exact n13
    have k : wp_M_run x m (fun r' m' => (-1 : Int) = r' ∧ RlW W (i + 1) o0 o1 o2 o3 o4 o5 o6 o7 o8 o9 o10 m') := ⟨fun _ => ⟨rfl, hs⟩, fun z => absurd n13 z⟩
    have k2 : wp_M_run x m (fun r' m' => o9.1 1 = r' ∧ RlW W (i + 1) o0 o1 o2 o3 o4 o5 o6 o7 o8 o9 o10 m') := by rw [n1]; exact k
    exact ⟨fun _ => k, fun x1 => ⟨fun _ => ⟨fun _ => ⟨1, fun z => k2, fun _ => ⟨fun _ => k2, fun z => by omega⟩⟩, fun z => by omega⟩, fun _ => k⟩⟩
  · obtain ⟨t1, t2, t3, t4, t5⟩ := t
    refine run_ok (R := fun te' go' ch' se' wr' m' => RlW W (i + 1) o0 o1 o2 o3 o4 o5 te' go' ch' se' wr' m') t2 t3 t4.2.2.2.2 (fun te' go' ch' se' wr' m' q1 q2 => ?_) (SRelE_S h3) (by omega)
    have q1' : SRel NL Cs Q AL o0 (200 * ((i + 1 : Nat) : Int)) te' go' ch' se' m' := SRel_mono (by omega) q1
    have hB := Base_of t2 t3 t4.2.2.2.2 q1'
    obtain ⟨E', rp', q1''⟩ := SRel_E q1'
    rcases q2 with ⟨e1, e2, e3, e4, e5, e6⟩ | ⟨e1, e2⟩ | e1
    · subst e1; subst e2; subst e3; subst e4; subst e5; subst e6
      exact hs
    · refine ⟨NL, Cs, hB.1, hB.2, Or.inr ⟨Q, AL, E', rp', q1'', Or.inl ?_⟩⟩
      rw [e1]
      rcases h4 with h4 | ⟨-, h4, -⟩
      · exact h4
      · exact absurd h4 e2
    · exact ⟨NL, Cs, hB.1, hB.2, Or.inr ⟨Q, AL, E', rp', q1'', Or.inl (by rw [e1]; rfl)⟩⟩
theorem rl_0 : RlW W 0 z0 z0 z0 z0 z0 z0 z0 (sI z0 1 (-1)) z0 (sI z0 1 (-1)) z0 z0 := by
  refine ⟨[], [], ⟨⟨rfl, Int.le_refl _, by show (0 : Int) ≤ 240; decide, fun i i0 i1 => ?_⟩, ⟨⟨rfl, Nat.zero_le _, fun i hi => absurd hi (Nat.not_lt_zero _)⟩, rfl, rfl⟩, ⟨rfl, rfl, by decide, fun A p C hA => ?_, fun p hp => absurd hp (List.not_mem_nil)⟩, ⟨rfl, rfl, fun i hi => absurd hi (Nat.not_lt_zero _), fun A p C hA => ?_, fun p hp => absurd hp (List.not_mem_nil)⟩, ⟨Int.le_refl _, by show (0 : Int) ≤ 2440; decide, fun j j0 j1 => ?_, Int.le_refl _, Int.le_refl _, fun c _ _ => Int.le_refl _⟩⟩, Int.le_refl _, Or.inl ⟨rfl, rfl, rfl, rfl, rfl, rfl, rfl, rfl, rfl, rfl, rfl, rfl, rfl, rfl, rfl, rfl, rfl, rfl⟩⟩
  · have i1 : i < 0 := i1
    omega
  · cases A <;> cases hA
  · cases A <;> cases hA
  · have j1 : j < 0 := j1
    omega
/-- all but the answer's letters -/
theorem j_all (hA : J_answer (RlW W)) : J_all (RlW W) := ⟨j_skip, j_type, j_consult, j_ask, j_run, hA, j_clauses, j_tries, j_choices, j_length, j_goals, j_forget⟩
end JS
