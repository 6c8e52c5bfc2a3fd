/-! answer: no term that is written holds a cut -/
theorem seg_nc : ∀ (Ss : List (List Sy)), (∀ S ∈ Ss, S = [] ∨ S = [(-2, 0)] ∨ (Tms 1 S ∧ ∀ x ∈ S, okT x)) → ∀ x k, x < Ss.flatten.length → k < nA Ss.flatten x → en Ss.flatten (ch Ss.flatten x k) ≠ (-2, 0)
  | [], _, x, k, hx, _ => absurd hx (Nat.not_lt_zero _)
  | S :: Ss, h, x, k, hx, hk => by
    rw [List.flatten_cons] at hx hk ⊢
    have hS := h S List.mem_cons_self
    rcases split_x hx with q | ⟨j, hj, rfl⟩
    · rw [nA_app q] at hk
      rcases hS with e | e | ⟨e1, e2⟩
      · subst e; exact absurd q (Nat.not_lt_zero _)
      · subst e
        have q : x < 1 := q
        have : x = 0 := by omega
        subst this
        exact absurd hk (Nat.not_lt_zero _)
      · have hW := WE_tms e1
        have hc := ch_lt hW q hk
        rw [ch_app hW q (by omega), en_app hc]
        intro e
        have := e2 _ (gD_mem hc)
        have e' : S.getD (ch S x k) (0, 0) = (-2, 0) := e
        rw [e'] at this
        rcases this with w | w | w | ⟨w, -⟩
        · exact absurd w (by decide)
        · exact absurd w (by decide)
        · exact absurd w (by decide)
        · exact absurd w (by decide)
    · rw [nA_app_r] at hk
      rw [ch_app_r, en_app_r]
      exact seg_nc Ss (fun T hT => h T (List.mem_cons_of_mem _ hT)) j k hj hk
def sgs (FL : List Frm) : List (List Sy) := (FL.map (fun q => q.2.1 :: q.2.2)).flatten
theorem sgs_E : ∀ FL : List Frm, (sgs FL).flatten = fE FL
  | [] => rfl
  | q :: FL => by
    have e : sgs (q :: FL) = (q.2.1 :: q.2.2) ++ sgs FL := by unfold sgs; rw [List.map_cons, List.flatten_cons]
    rw [e, List.flatten_append, List.flatten_cons, sgs_E FL, fE_cons]
    rfl
theorem fE_nc {FL : List Frm} (h : ∀ q ∈ FL, PSh q.2) : ∀ x k, x < (fE FL).length → k < nA (fE FL) x → en (fE FL) (ch (fE FL) x k) ≠ (-2, 0) := by
  rw [← sgs_E FL]
  refine seg_nc _ (fun S hS => ?_)
  unfold sgs at hS
  obtain ⟨l, hl, hS⟩ := List.mem_flatten.mp hS
  obtain ⟨q, hq, e⟩ := List.mem_map.mp hl
  subst e
  obtain ⟨p1, p2⟩ := h q hq
  rcases List.mem_cons.mp hS with e | e
  · rw [e]
    rcases p1 with w | w
    · exact Or.inl w
    · exact Or.inr (Or.inr ⟨w.1, w.2.1⟩)
  · rcases p2 S e with w | w
    · exact Or.inr (Or.inl w)
    · exact Or.inr (Or.inr ⟨w.1, w.2.1⟩)
/-- a cut is joined with nothing else -/
def Alo (E : List Sy) (rp : Nat → Nat) : Prop := ∀ x y, x < E.length → y < E.length → rp x = rp y → en E x = (-2, 0) → x = y
theorem Alo_fv {L : List Sy} : ∀ i j, i < L.length → j < L.length → fv L i = fv L j → en L i = (-2, 0) → i = j := fun i j hi hj e h => by
  rcases fv_eq hi hj e with w | ⟨w, -⟩
  · exact w
  · have h : L.getD i (0, 0) = (-2, 0) := h
    rw [h] at w
    exact absurd w (by decide)
theorem Alo_new {E0 L : List Sy} {rp : Nat → Nat} (hr : ∀ x, x < E0.length → rp x < E0.length) (h : Alo E0 rp) : Alo (E0 ++ L) (rpN E0 L rp) := by
  intro x y hx hy e hc
  rcases split_x hx with q1 | ⟨i, hi, rfl⟩ <;> rcases split_x hy with q2 | ⟨j, hj, rfl⟩
  · rw [rpN_old q1, rpN_old q2] at e
    rw [en_app q1] at hc
    exact h x y q1 q2 e hc
  · exact absurd e (rpN_mix hr q1)
  · exact absurd e.symm (rpN_mix hr q2)
  · rw [rpN_new, rpN_new] at e
    rw [en_app_r] at hc
    rw [Alo_fv i j hi hj (by omega) hc]
theorem Alo_lst {E : List Sy} {rp0 rp : Nat → Nat} {a b : Nat} (hW : WE E) (hnc : ∀ x k, x < E.length → k < nA E x → en E (ch E x k) ≠ (-2, 0)) (h0 : Alo E rp0) (ha : en E a ≠ (-2, 0)) (hb : en E b ≠ (-2, 0)) (h : Lst E (Rf rp0) a b rp) : Alo E rp := by
  obtain ⟨⟨u1, u2, u3, u4⟩, -, hL⟩ := h
  intro x y hx hy e hc
  have hX : UnX E (Rf rp0) a b (fun x y => rp x = rp y ∧ (x = y ∨ (en E x ≠ (-2, 0) ∧ en E y ≠ (-2, 0)))) := by
    refine ⟨⟨fun x => ⟨rfl, Or.inl rfl⟩, fun x y h => ⟨h.1.symm, ?_⟩, fun x y z h k => ⟨h.1.trans k.1, ?_⟩⟩, fun x y hx hy h vx vy => ?_, fun x y hx hy h => ⟨u3 x y hx hy h, ?_⟩, u4, Or.inr ⟨ha, hb⟩⟩
    · rcases h.2 with w | ⟨w1, w2⟩
      · exact Or.inl w.symm
      · exact Or.inr ⟨w2, w1⟩
    · rcases h.2 with w | ⟨w1, w2⟩
      · rw [w]; exact k.2
      · rcases k.2 with v | ⟨v1, v2⟩
        · rw [← v]; exact Or.inr ⟨w1, w2⟩
        · exact Or.inr ⟨w1, v2⟩
    · obtain ⟨c1, c2⟩ := u2 x y hx hy h.1 vx vy
      refine ⟨c1, fun k hk => ⟨c2 k hk, Or.inr ⟨hnc x k hx hk, hnc y k hy ?_⟩⟩⟩
      unfold nA at hk ⊢
      rw [← c1]; exact hk
    · by_cases w : en E x = (-2, 0)
      · exact Or.inl (h0 x y hx hy h w)
      · by_cases v : en E y = (-2, 0)
        · exact Or.inl (h0 y x hy hx h.symm v).symm
        · exact Or.inr ⟨w, v⟩
  rcases (hL _ hX x y hx hy e).2 with w | ⟨w, -⟩
  · exact w
  · exact absurd hc w
theorem strip_hd {E : List Sy} {g k : Nat} {rest : List (Nat × Nat)} : ∀ {l : List (Nat × Nat)}, stripG E l = (g, k) :: rest → en E g ≠ (-2, 0)
  | [], h => by cases h
  | q :: l, h => by
    rcases sG_dec E q.1 with w | w
    · rw [stripG_cut w] at h
      exact strip_hd h
    · rw [stripG_id w] at h
      injection h with h1 h2
      rw [h1] at w
      exact fun e => w (Or.inl e)
section NC
variable {NL : List Nat} {Cs : List Part} {Q : Part} {AL : List Nat} {tx m : Ob}
theorem Path_sh (hS : Stc NL Cs Q AL tx m) {s : List (Nat × Nat)} {FL : List Frm} {GL : List (Nat × Nat)} {rp : Nat → Nat} (h : PathOk Cs Q s FL GL rp) : ∀ q ∈ FL, PSh q.2 := fun q hq => by
  rcases (Path_fr h).1 q hq with e | ⟨e1, e2⟩
  · rw [e]; exact hS.2.2.2.2.1.1
  · rw [e2]; exact (hS.2.2.2.1 _ (Cs_mem e1)).1.1
theorem Path_alo (hS : Stc NL Cs Q AL tx m) : ∀ {s : List (Nat × Nat)} {FL : List Frm} {GL : List (Nat × Nat)} {rp : Nat → Nat}, PathOk Cs Q s FL GL rp → Alo (fE FL) rp
  | [], FL, GL, rp, h => by
    obtain ⟨rfl, -, rfl, -⟩ := h
    rw [fE_one]
    intro x y hx hy e hc
    rw [rpN_0, rpN_0] at e
    exact Alo_fv x y hx hy e hc
  | q :: s, FL, GL, rp, h => by
    have hsh := Path_sh hS h
    obtain ⟨FL0, GL0, rp0, g, k, rest, h1, h2, h3, rfl, h5, h6, h7⟩ := h
    have ih := Path_alo hS h1
    obtain ⟨f1, f2, f3, ⟨⟨D0, hD0, hGl⟩, gC, gV, gA, gr, g120, gn⟩⟩ := Path_fr h1
    have hnm := (hS.2.2.2.1 _ (Cs_mem h3)).2
    have hnc := fE_nc hsh
    have hW : WE (fE (FL0 ++ [(q.1, Cs.getD q.1 ([], []))])) := psL_WE (fun p hp => by
      obtain ⟨r, hr, e⟩ := List.mem_map.mp hp
      subst e
      exact hsh r hr)
    have hg : g < (fE FL0).length := by
      have : ∀ l : List (Nat × Nat), ∀ r ∈ stripG (fE FL0) l, r ∈ l := by
        intro l
        induction l with
        | nil => intro r hr; exact hr
        | cons y l ih =>
          intro r hr
          rcases sG_dec (fE FL0) y.1 with w | w
          · rw [stripG_cut w] at hr; exact List.mem_cons_of_mem _ (ih r hr)
          · rw [stripG_id w] at hr; exact hr
      exact (hGl _ (this GL0 _ (by rw [h2]; exact List.mem_cons_self))).1
    rw [fE_snoc] at hnc hW h6 ⊢
    refine Alo_lst hW hnc (Alo_new (fun x hx => (gr x hx).1) ih) ?_ ?_ h6
    · rw [en_app hg]
      exact strip_hd h2
    · have e := en_app_r (fE FL0) (pL (Cs.getD q.1 ([], []))) 0
      rw [Nat.add_zero] at e
      obtain ⟨a, w, T, e1, -⟩ := hnm.2.2
      have e2 : pL (Cs.getD q.1 ([], [])) = ((a : Int), w) :: (T ++ (Cs.getD q.1 ([], [])).2.flatten) := by unfold pL; rw [e1]; rfl
      show en (fE FL0 ++ pL (Cs.getD q.1 ([], []))) (fE FL0).length ≠ _
      rw [e, e2]
      intro z
      have z : ((a : Int), w) = (-2, 0) := z
      injection z with z1 z2
      omega
theorem Path_rc (hS : Stc NL Cs Q AL tx m) {s : List (Nat × Nat)} {FL : List Frm} {GL : List (Nat × Nat)} {rp : Nat → Nat} (h : PathOk Cs Q s FL GL rp) {x : Nat} (hx : x < (fE FL).length) (hc : en (fE FL) x ≠ (-2, 0)) : en (fE FL) (rp x) ≠ (-2, 0) := fun e => by
  obtain ⟨-, -, -, -, -, -, -, gr, -, -⟩ := Path_fr h
  have := Path_alo hS h (rp x) x (gr x hx).1 hx (gr x hx).2 e
  rw [this] at e
  exact hc e
theorem Path_cc (hS : Stc NL Cs Q AL tx m) {s : List (Nat × Nat)} {FL : List Frm} {GL : List (Nat × Nat)} {rp : Nat → Nat} (h : PathOk Cs Q s FL GL rp) : ∀ x, x < (fE FL).length → ∀ k, k < nA (fE FL) x → en (fE FL) (rp (ch (fE FL) x k)) ≠ (-2, 0) := fun x hx k hk => by
  have hsh := Path_sh hS h
  have hW : WE (fE FL) := psL_WE (fun p hp => by
    obtain ⟨r, hr, e⟩ := List.mem_map.mp hp
    subst e
    exact hsh r hr)
  exact Path_rc hS h (ch_lt hW hx hk) (fE_nc hsh x k hx hk)
theorem Path_ac (hS : Stc NL Cs Q AL tx m) {s : List (Nat × Nat)} {FL : List Frm} {GL : List (Nat × Nat)} {rp : Nat → Nat} (h : PathOk Cs Q s FL GL rp) : ∀ x ∈ AL, x < (fE FL).length ∧ en (fE FL) (rp x) ≠ (-2, 0) := fun x hx => by
  obtain ⟨a1, a2⟩ := hS.2.2.2.2.2.2.2.2.2.1 x hx
  obtain ⟨-, -, ⟨T, e⟩, -⟩ := Path_fr h
  have hl : x < (fE FL).length := by
    rw [e, fE_cons, List.length_append]
    show x < (pL Q).length + _
    omega
  refine ⟨hl, Path_rc hS h hl (fun z => ?_)⟩
  rw [e, fE_cons] at z
  have z : en (pL Q ++ fE T) x = (-2, 0) := z
  rw [en_app a1] at z
  have a2 : (en (pL Q) x).1 = -1 := a2
  rw [z] at a2
  exact absurd a2 (by decide)
end NC
