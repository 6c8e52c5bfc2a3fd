/-! the search: the reference's goals -/
def MGo (FL : List Frm) (a b c : Int → Int) : List (Nat × Nat) → Prop
  | [] => True
  | q :: l => Lo FL (a (l.length : Int)) (b (l.length : Int)) q.1 ∧ c (l.length : Int) = (q.2 : Int) ∧ MGo FL a b c l
theorem MGo_eq {FL FL' : List Frm} {a b c a' b' c' : Int → Int} (hL : ∀ p f x, Lo FL p f x → Lo FL' p f x) : ∀ {l : List (Nat × Nat)}, MGo FL a b c l → (∀ y, 0 ≤ y → y < (l.length : Int) → a' y = a y ∧ b' y = b y ∧ c' y = c y) → MGo FL' a' b' c' l
  | [], _, _ => trivial
  | q :: l, h, e => by
    rw [List.length_cons] at e
    obtain ⟨e1, e2, e3⟩ := e (l.length : Int) (by omega) (by omega)
    refine ⟨?_, by rw [e3]; exact h.2.1, MGo_eq hL h.2.2 (fun y y0 y1 => e y y0 (by omega))⟩
    rw [e1, e2]
    exact hL _ _ _ h.1
def GoM (FL : List Frm) (m : Ob) (GL : List (Nat × Nat)) : Prop := MGo FL (m.2.1 19) (m.2.1 20) (m.2.1 21) GL ∧ m.1 18 = (GL.length : Int)
/-- goals that need no clause: a cut, true -/
def sG (E : List Sy) (x : Nat) : Prop := en E x = (-2, 0) ∨ en E x = (0, 1702195828)
theorem sG_dec (E : List Sy) (x : Nat) : sG E x ∨ ¬ sG E x := Classical.em _
def stripG (E : List Sy) : List (Nat × Nat) → List (Nat × Nat)
  | [] => []
  | q :: l => if en E q.1 = (-2, 0) ∨ en E q.1 = (0, 1702195828) then stripG E l else q :: l
theorem stripG_le (E : List Sy) : ∀ l : List (Nat × Nat), (stripG E l).length ≤ l.length
  | [] => Nat.le_refl _
  | q :: l => by
    have := stripG_le E l
    show (if en E q.1 = (-2, 0) ∨ en E q.1 = (0, 1702195828) then stripG E l else q :: l).length ≤ l.length + 1
    split
    · omega
    · exact Nat.le_refl _
theorem stripG_cut {E : List Sy} {q : Nat × Nat} {l : List (Nat × Nat)} (h : sG E q.1) : stripG E (q :: l) = stripG E l := if_pos h
theorem stripG_id {E : List Sy} {q : Nat × Nat} {l : List (Nat × Nat)} (h : ¬ sG E q.1) : stripG E (q :: l) = q :: l := if_neg h
theorem stripG_idem (E : List Sy) : ∀ l : List (Nat × Nat), stripG E (stripG E l) = stripG E l
  | [] => rfl
  | q :: l => by
    rcases sG_dec E q.1 with h | h
    · rw [stripG_cut h]; exact stripG_idem E l
    · rw [stripG_id h, stripG_id h]
section MG
variable {FL : List Frm} {m : Ob}
theorem Lo_cut (hM : MW FL m) {p f : Int} {x : Nat} (h : Lo FL p f x) : m.2.1 10 p = -2 ↔ en (fE FL) x = (-2, 0) := by
  have l := Lo_en hM h
  rw [l.2.2.2.2.2.1]
  refine ⟨fun z => ?_, fun z => by rw [z]⟩
  rcases (MW_n4 hM l.2.2.2.2.1).1 with (w | w | w | ⟨w, -⟩) | w
  · omega
  · rw [w] at z; exact absurd z (by decide)
  · rw [w] at z; exact absurd z (by decide)
  · omega
  · exact w
theorem sp_alone (hM : MW FL m) {p f : Int} {x : Nat} {w : Nat} {K : Int → Prop} (h : Lo FL p f x) (h1 : en (fE FL) x = (0, w) → K 1) (h0 : en (fE FL) x ≠ (0, w) → K 0) : wp_M_isWordAlone p w m K := by
  have l := Lo_en hM h
  refine ⟨⟨l.1, l.2.1⟩, fun z => h0 (fun e => z ?_), fun z => ⟨⟨l.1, l.2.1⟩, fun z2 => h0 (fun e => z2 ?_), fun z2 => h1 ?_⟩⟩
  · rw [l.2.2.2.2.2.1, e]
  · have nv : ¬ isV (fE FL) x := fun q => by unfold isV at q; rw [e] at q; exact absurd q (show ¬ (0 : Int) = -1 by decide)
    rw [l.2.2.2.2.2.2.1 nv, e]
  · rw [l.2.2.2.2.2.1] at z
    have nv : ¬ isV (fE FL) x := fun q => by unfold isV at q; omega
    rw [l.2.2.2.2.2.2.1 nv] at z2
    exact Prod.ext z z2
theorem sp_strip {K : Ob → Prop} (hMW : ∀ v, MW FL (sI m 18 v)) {GL : List (Nat × Nat)} (hG : GoM FL m GL) (hl : GL.length ≤ 300) (hK : ∀ m', GoM FL m' (stripG (fE FL) GL) → (∀ j, j ≠ 18 → m'.1 j = m.1 j) → m'.2 = m.2 → K m') : wp_M_strip m K := by
  have loop : ∀ (n : Nat) (l : List (Nat × Nat)) (m' : Ob), l.length < n → l.length ≤ 300 → stripG (fE FL) l = stripG (fE FL) GL → GoM FL m' l → (∀ j, j ≠ 18 → m'.1 j = m.1 j) → m'.2 = m.2 → M_strip_0 n m' K := by
    intro n
    induction n with
    | zero => intro l m' h; omega
    | succ n ih =>
      intro l m' hn hl2 hs hg e1 e2
      obtain ⟨g1, g2⟩ := hg
      cases l with
      | nil =>
        rw [List.length_nil] at g2
        exact ⟨fun _ => hK m' (by rw [← hs]; exact ⟨trivial, g2⟩) e1 e2, fun z => by omega⟩
      | cons q l =>
        rw [List.length_cons] at g2 hn hl2
        have e : m'.1 18 - 1 = (l.length : Int) := by omega
        have hM' : MW FL m' := ⟨fun r hr => by
          have := (hMW 0).1 r hr
          refine ⟨?_, this.2⟩
          have h1 := this.1
          unfold MCl at h1 ⊢
          rw [e2]
          exact h1, (hMW 0).2⟩
        have lq := Lo_en hM' g1.1
        have nx : sG (fE FL) q.1 → M_strip_49 (fun m' => M_strip_0 n m' K) m' K := fun hs2 => by
          refine ⟨⟨by omega, by omega⟩, ?_⟩
          rw [e]
          rw [stripG_cut hs2] at hs
          exact ih l (sI m' 18 (l.length : Int)) (by omega) (by omega) hs ⟨g1.2.2, rfl⟩ (fun j hj => (if_neg hj).trans (e1 j hj)) e2
        refine ⟨fun z => by omega, fun _ => ⟨⟨by omega, by omega⟩, ⟨by omega, by omega⟩, ?_⟩⟩
        rw [e]
        refine ⟨⟨lq.1, lq.2.1⟩, fun z => nx (Or.inl ((Lo_cut hM' g1.1).mp z)), fun z => ⟨⟨by omega, by omega⟩, ⟨by omega, by omega⟩, ?_⟩⟩
        refine sp_alone hM' g1.1 (fun w => ⟨fun z2 => absurd z2 (by decide), fun _ => nx (Or.inr w)⟩) (fun w => ⟨fun _ => ?_, fun z2 => absurd rfl z2⟩)
        have hns : ¬ sG (fE FL) q.1 := fun z2 => z2.elim (fun y => z ((Lo_cut hM' g1.1).mpr y)) w
        refine hK m' ?_ e1 e2
        rw [← hs, stripG_id hns]
        exact ⟨g1, by rw [List.length_cons]; exact g2⟩
  exact ⟨GL.length + 1, loop (GL.length + 1) GL m (by omega) hl rfl hG (fun _ _ => rfl) rfl⟩
end MG
theorem bdG_drop : ∀ (Gs : List (List Sy)) (x cut k : Nat), k < Gs.length → (bdG Gs x cut).drop k = (x + (Gs.take k).flatten.length, cut) :: (bdG Gs x cut).drop (k + 1)
  | [], x, cut, k, h => absurd h (Nat.not_lt_zero _)
  | G :: Gs, x, cut, 0, h => rfl
  | G :: Gs, x, cut, k + 1, h => by
    have := bdG_drop Gs (x + G.length) cut k (Nat.lt_of_succ_lt_succ h)
    show (bdG Gs (x + G.length) cut).drop k = (x + ((G :: Gs.take k).flatten).length, cut) :: (bdG Gs (x + G.length) cut).drop (k + 1)
    rw [this, List.flatten_cons, List.length_append, show x + (G.length + (Gs.take k).flatten.length) = x + G.length + (Gs.take k).flatten.length by omega]
/-- what the reference's prepend leaves alone -/
def gfr (m m' : Ob) : Prop := (∀ j, j ≠ 18 → m'.1 j = m.1 j) ∧ (∀ j, j ≠ 19 → j ≠ 20 → j ≠ 21 → m'.2.1 j = m.2.1 j) ∧ m'.2.2 = m.2.2
theorem sp_prepend {FL0 : List Frm} {c : Nat} {P : Part} {m : Ob} {GL : List (Nat × Nat)} {cut : Nat} {K : Ob → Prop} (hMC : MCl m (c : Int) P) (hc : c ≤ 24) (hP : PSh P) (hov : ¬ ovP P) (hG : GoM (FL0 ++ [(c, P)]) m GL) (hl : GL.length + 8 ≤ 300) (hK : ∀ m', gfr m m' → GoM (FL0 ++ [(c, P)]) m' (bd (fE FL0).length P cut ++ GL) → K m') : wp_M_prepend (c : Int) (FL0.length : Int) (cut : Int) m K := by
  have b := ov_40 hov
  obtain ⟨c1, c2, c3, c4⟩ := hMC
  have loop : ∀ (n k : Nat) (m' : Ob), k ≤ P.2.length → k < n → gfr m m' → GoM (FL0 ++ [(c, P)]) m' ((bd (fE FL0).length P cut).drop k ++ GL) → M_prepend_10 n (c : Int) (FL0.length : Int) (cut : Int) ((k : Int) - 1) m' K := by
    intro n
    induction n with
    | zero => intro k m' _ h; omega
    | succ n ih =>
      intro k m' hk hn f hg
      obtain ⟨g1, g2⟩ := hg
      have hdl : ((bd (fE FL0).length P cut).drop k ++ GL).length = P.2.length - k + GL.length := by rw [List.length_append, List.length_drop, bd_len]
      rw [hdl] at g2
      have h8 : P.2.length ≤ 8 := b.2.2.1
      refine ⟨fun z => ?_, fun z => ?_⟩
      · have : k = 0 := by omega
        subst this
        refine hK m' f ⟨?_, ?_⟩
        · exact g1
        · rw [g2, List.length_append, bd_len]; omega
      · obtain ⟨j, hj⟩ : ∃ j, k = j + 1 := ⟨k - 1, by omega⟩
        subst hj
        rw [show ((j + 1 : Nat) : Int) - 1 = (j : Int) by omega]
        have hgo := c4 j (by omega)
        have e13 : m'.2.1 13 (8 * (c : Int) + (j : Int)) = 40 * (c : Int) + (P.1.length : Int) + ((P.2.take j).flatten.length : Int) := by rw [f.2.1 13 (by decide) (by decide) (by decide)]; exact hgo
        rw [e13]
        refine ⟨⟨by omega, by omega⟩, ⟨by omega, by omega⟩, ⟨by omega, by omega⟩, ⟨by omega, by omega⟩, ⟨by omega, by omega⟩, ⟨by omega, by omega⟩, ⟨by omega, by omega⟩, ⟨by omega, by omega⟩, ?_⟩
        have := ih j (sI (sA (sA (sA m' 19 (m'.1 18) (40 * (c : Int) + (P.1.length : Int) + ((P.2.take j).flatten.length : Int))) 20 (m'.1 18) (FL0.length : Int)) 21 (m'.1 18) (cut : Int)) 18 (m'.1 18 + 1)) (by omega) (by omega) ⟨fun i hi => (if_neg hi).trans (f.1 i hi), fun i i1 i2 i3 => (((if_neg i3).trans (if_neg i2)).trans (if_neg i1)).trans (f.2.1 i i1 i2 i3), f.2.2⟩ ?_
        · rw [show (j : Int) + (-1) = (j : Int) - 1 by omega]
          exact this
        · have ed : (bd (fE FL0).length P cut).drop j = ((fE FL0).length + P.1.length + (P.2.take j).flatten.length, cut) :: (bd (fE FL0).length P cut).drop (j + 1) := bdG_drop P.2 _ cut j (by omega)
          rw [ed]
          have hlt : P.1.length + (P.2.take j).flatten.length < (pL P).length := by
            have h1 : P.2.flatten.length = (P.2.take j).flatten.length + (P.2.drop j).flatten.length := by
              have e := congrArg (fun l => (List.flatten l).length) (List.take_append_drop j P.2)
              simp only [List.flatten_append, List.length_append] at e
              omega
            have h2 : 0 < (P.2.drop j).flatten.length := by
              rw [List.drop_eq_getElem_cons (by omega), List.flatten_cons, List.length_append]
              have := PSh_ne hP (P.2[j]'(by omega)) (List.getElem_mem _)
              have := List.length_pos_iff.mpr this
              omega
            unfold pL
            rw [List.length_append]
            omega
          refine ⟨⟨?_, ?_, ?_⟩, ?_⟩
          · show Lo _ (updI (m'.2.1 19) (m'.1 18) _ _) (updI (m'.2.1 20) (m'.1 18) _ _) _
            unfold updI
            rw [if_pos (by rw [g2]; show (((bd (fE FL0).length P cut).drop (j + 1) ++ GL).length : Int) = _; rw [hdl]), if_pos (by rw [g2]; show (((bd (fE FL0).length P cut).drop (j + 1) ++ GL).length : Int) = _; rw [hdl])]
            exact ⟨FL0, c, P, [], P.1.length + (P.2.take j).flatten.length, rfl, rfl, hlt, by omega, by omega⟩
          · show updI (m'.2.1 21) (m'.1 18) _ _ = _
            unfold updI
            rw [if_pos (by rw [g2]; show (((bd (fE FL0).length P cut).drop (j + 1) ++ GL).length : Int) = _; rw [hdl])]
          · refine MGo_eq (fun _ _ _ h => h) g1 (fun y y0 y1 => ?_)
            have y1 : y < (((bd (fE FL0).length P cut).drop (j + 1) ++ GL).length : Int) := y1
            rw [hdl] at y1
            exact ⟨if_neg (by omega), if_neg (by omega), if_neg (by omega)⟩
          · show m'.1 18 + 1 = ((((bd (fE FL0).length P cut).drop (j + 1) ++ GL).length + 1 : Nat) : Int)
            rw [hdl]; omega
  refine ⟨⟨by omega, by omega⟩, ⟨by rw [c3]; omega, by rw [c3]; omega⟩, P.2.length + 1, ?_⟩
  rw [c3]
  refine loop (P.2.length + 1) P.2.length m (Nat.le_refl _) (by omega) ⟨fun _ _ => rfl, fun _ _ _ _ => rfl, rfl⟩ ?_
  rw [List.drop_of_length_le (by rw [bd_len]; omega), List.nil_append]
  exact hG
/-- a frame's variables are made free -/
theorem sp_clear {m : Ob} {f : Nat} {K : Ob → Prop} (hf : f ≤ 60) (hK : ∀ m', m'.1 = m.1 → (∀ j, j ≠ 22 → m'.2.1 j = m.2.1 j) → m'.2.2 = m.2.2 → (∀ y, y < 8 * (f : Int) → m'.2.1 22 y = m.2.1 22 y) → (∀ v : Nat, v < 8 → m'.2.1 22 (8 * (f : Int) + (v : Int)) = -1) → K m') : wp_M_clearFrame (f : Int) m K := by
  have loop : ∀ (n v : Nat) (m' : Ob), v ≤ 8 → 8 < n + v → m'.1 = m.1 → (∀ j, j ≠ 22 → m'.2.1 j = m.2.1 j) → m'.2.2 = m.2.2 → (∀ y, y < 8 * (f : Int) → m'.2.1 22 y = m.2.1 22 y) → (∀ w : Nat, w < v → m'.2.1 22 (8 * (f : Int) + (w : Int)) = -1) → M_clearFrame_2 n (f : Int) (v : Int) m' K := by
    intro n
    induction n with
    | zero => intro v m' h1 h2; omega
    | succ n ih =>
      intro v m' h1 h2 e1 e2 e3 e4 e5
      refine ⟨fun z => hK m' e1 e2 e3 e4 (fun w hw => e5 w (by omega)), fun z => ⟨⟨by omega, by omega⟩, ⟨by omega, by omega⟩, ⟨by omega, by omega⟩, ⟨by omega, by omega⟩, ?_⟩⟩
      refine ih (v + 1) _ (by omega) (by omega) e1 (fun j hj => (if_neg hj).trans (e2 j hj)) e3 (fun y hy => ?_) (fun w hw => ?_)
      · show (if y = 8 * (f : Int) + (v : Int) then (-1 : Int) else m'.2.1 22 y) = _
        rw [if_neg (by omega)]; exact e4 y hy
      · show (if 8 * (f : Int) + (w : Int) = 8 * (f : Int) + (v : Int) then (-1 : Int) else m'.2.1 22 (8 * (f : Int) + (w : Int))) = -1
        split
        · rfl
        · exact e5 w (by omega)
  exact ⟨9, loop 9 0 m (by decide) (by decide) rfl (fun _ _ => rfl) rfl (fun _ _ => rfl) (fun w hw => absurd hw (Nat.not_lt_zero _))⟩
theorem BdOk_new {FL : List Frm} {q : Frm} {m m' : Ob} {BL : List (Nat × Nat)} (h : BdOk FL m BL) (e22 : ∀ y, y < 8 * (FL.length : Int) → m'.2.1 22 y = m.2.1 22 y) (e23 : m'.2.1 23 = m.2.1 23) (hn : ∀ v : Nat, v < 8 → m'.2.1 22 (8 * (FL.length : Int) + (v : Int)) = -1) : BdOk (FL ++ [q]) m' BL := by
  obtain ⟨h1, h2, h3⟩ := h
  refine ⟨?_, fun r hr => ?_, fun v hv => ?_⟩
  · rw [fE_snoc]; exact BOk_new h1
  · have := h2 r hr
    rw [List.length_append, List.length_singleton]; omega
  · rw [List.length_append, List.length_singleton] at hv
    by_cases w : v < 8 * FL.length
    · rw [e22 (v : Int) (by omega), e23]
      exact ⟨(h3 v w).1, fun y hy => Lo_mono ((h3 v w).2 y hy)⟩
    · have hl := lk_big h2 (show 8 * FL.length ≤ v by omega)
      refine ⟨fun _ => ?_, fun y hy => by rw [hl] at hy; cases hy⟩
      have := hn (v - 8 * FL.length) (by omega)
      rw [show (8 * (FL.length : Int) + ((v - 8 * FL.length : Nat) : Int)) = (v : Int) by omega] at this
      rw [this]; decide
