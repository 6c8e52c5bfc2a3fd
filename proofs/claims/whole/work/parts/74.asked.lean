/-! ask: the variables that are asked for, and the question's first branch -/
abbrev flt (l : List Nat) : List Nat := l.filter (fun w => decide (w ≠ 95))
theorem flt_snoc (l : List Nat) (w : Nat) : flt (l ++ [w]) = if w ≠ 95 then flt l ++ [w] else flt l := by
  unfold flt
  rw [List.filter_append]
  split
  · next h => rw [List.filter_cons_of_pos (by simpa using h)]; rfl
  · next h => rw [List.filter_cons_of_neg (by simpa using h), List.filter_nil, List.append_nil]
theorem vS_flt (l : List Nat) (x : Sy) : vnS (flt l) x = flt (vmS l x) := by
  unfold vnS vmS
  by_cases h1 : x.1 = -1
  · by_cases h2 : x.2 = 95
    · rw [if_neg (fun q => q.2.1 h2), if_pos ⟨h1, Or.inl h2⟩, flt_snoc, if_neg (fun q => q h2)]
    · have hm : x.2 ∈ flt l ↔ x.2 ∈ l := by
        unfold flt
        rw [List.mem_filter]
        exact ⟨fun q => q.1, fun q => ⟨q, decide_eq_true h2⟩⟩
      by_cases h3 : x.2 ∈ l
      · rw [if_neg (fun q => q.2.2 (hm.mpr h3)), if_neg (fun q => by rcases q.2 with w | w; exact h2 w; exact w h3)]
      · rw [if_pos ⟨h1, h2, fun q => h3 (hm.mp q)⟩, if_pos ⟨h1, Or.inr h3⟩, flt_snoc, if_pos h2]
  · rw [if_neg (fun q => h1 q.1), if_neg (fun q => h1 q.1)]
theorem vL_flt : ∀ (L : List Sy) (l : List Nat), L.foldl vnS (flt l) = flt (L.foldl vmS l)
  | [], _ => rfl
  | x :: L, l => by
    rw [List.foldl_cons, List.foldl_cons, vS_flt]
    exact vL_flt L (vmS l x)
theorem vN_flt (L : List Sy) : vN L = flt (vM L) := vL_flt L []
theorem vAt_fi {L : List Sy} {k p : Nat} (h : vAt L k p) (hw : (vM L).getD k 0 ≠ 95) : p = fiL L ((vM L).getD k 0) := by
  obtain ⟨h1, h2, h3⟩ := h
  have e1 : vM (L.take (p + 1)) = vmS (vM (L.take p)) (L.getD p (0, 0)) := by rw [take_succ h1, vM_snoc]
  have hc : (L.getD p (0, 0)).1 = -1 ∧ ((L.getD p (0, 0)).2 = 95 ∨ (L.getD p (0, 0)).2 ∉ vM (L.take p)) := by
    by_cases q : (L.getD p (0, 0)).1 = -1 ∧ ((L.getD p (0, 0)).2 = 95 ∨ (L.getD p (0, 0)).2 ∉ vM (L.take p))
    · exact q
    · unfold vmS at e1
      rw [if_neg q] at e1
      rw [e1] at h3
      omega
  have e2 : vM (L.take (p + 1)) = vM (L.take p) ++ [(L.getD p (0, 0)).2] := by
    rw [e1]
    unfold vmS
    exact if_pos hc
  have e3 : (vM L).getD k 0 = (L.getD p (0, 0)).2 := by
    obtain ⟨t, ht⟩ := vM_ext (L.take (p + 1)) (L.drop (p + 1))
    rw [List.take_append_drop] at ht
    rw [ht, e2, List.append_assoc, List.getD_eq_getElem?_getD, ← h2, List.getElem?_append_right (Nat.le_refl _), Nat.sub_self]
    rfl
  rw [e3] at hw ⊢
  have hle := fiL_le h1 hc.1 rfl
  have hat := fiL_at h1 hc.1 rfl
  by_cases q : fiL L (L.getD p (0, 0)).2 < p
  · exfalso
    rcases hc.2 with w | w
    · exact hw w
    · refine w ?_
      have hm : (L.getD (fiL L (L.getD p (0, 0)).2) (0, 0)) ∈ L.take p := by
        rw [List.getD_eq_getElem?_getD, ← List.getElem?_take_of_lt q]
        have hl : fiL L (L.getD p (0, 0)).2 < (L.take p).length := by rw [List.length_take]; omega
        rw [List.getElem?_eq_getElem hl]
        exact List.getElem_mem hl
      have := mem_vM hm hat.1 (by rw [hat.2]; exact hw)
      rw [hat.2] at this
      exact this
  · omega
theorem sp_ask66 {L : List Sy} {m0 : Ob} {K : Int → Ob → Prop} (h7 : m0.1 7 = ((vM L).length : Int)) (hv : arN (m0.2.2.2 1) (vM L)) (h6 : ∀ k : Nat, k < (vM L).length → ∃ p : Nat, m0.2.1 6 (k : Int) = (p : Int) ∧ vAt L k p) (h8 : (vM L).length ≤ 8) (hl : L.length ≤ 40) (hK : ∀ m', (∀ j, j ≠ 12 → m'.1 j = m0.1 j) → (∀ j, j ≠ 14 → m'.2.1 j = m0.2.1 j) → m'.2.2 = m0.2.2 → m'.1 12 = ((vN L).length : Int) → (∀ v : Nat, v < (vN L).length → m'.2.1 14 (v : Int) = 960 + (fiL L ((vN L).getD v 0) : Int)) → M_ask_122 m' K) : ∀ (n k : Nat) (m' : Ob), k ≤ (vM L).length → (vM L).length < n + k → (∀ j, j ≠ 12 → m'.1 j = m0.1 j) → (∀ j, j ≠ 14 → m'.2.1 j = m0.2.1 j) → m'.2.2 = m0.2.2 → m'.1 12 = ((flt ((vM L).take k)).length : Int) → (∀ v : Nat, v < (flt ((vM L).take k)).length → m'.2.1 14 (v : Int) = 960 + (fiL L ((flt ((vM L).take k)).getD v 0) : Int)) → M_ask_66 n (k : Int) m' K := by
  intro n
  induction n with
  | zero => intro k m' h1 h2; omega
  | succ n ih =>
    intro k m' hk hn f1 f2 f3 e12 e14
    have e7 : m'.1 7 = ((vM L).length : Int) := (f1 7 (by decide)).trans h7
    have hfl : (flt ((vM L).take k)).length ≤ k := by
      have := List.length_filter_le (fun w => decide (w ≠ 95)) ((vM L).take k)
      rw [List.length_take] at this
      have e : (flt ((vM L).take k)).length = (List.filter (fun w => decide (w ≠ 95)) ((vM L).take k)).length := rfl
      omega
    refine ⟨fun z => ?_, fun z => ⟨⟨by omega, by omega⟩, ?_⟩⟩
    · have : k = (vM L).length := by omega
      subst this
      rw [List.take_length] at e12 e14
      refine hK m' f1 f2 f3 (by rw [vN_flt]; exact e12) (fun v hv' => ?_)
      rw [vN_flt] at hv' ⊢
      exact e14 v hv'
    · have hk' : k < (vM L).length := by omega
      have ew : m'.2.2.2 1 (k : Int) = (vM L).getD k 0 := by rw [f3]; exact hv k hk'
      have et : (vM L).take (k + 1) = (vM L).take k ++ [(vM L).getD k 0] := by
        rw [List.take_succ_eq_append_getElem hk', List.getD_eq_getElem?_getD, List.getElem?_eq_getElem hk']
        rfl
      have nx := ih (k + 1)
      rw [et, flt_snoc] at nx
      rw [ew]
      refine ⟨fun w => ⟨⟨by omega, by omega⟩, ?_⟩, fun w => ?_⟩
      · rw [if_neg (fun q => q w)] at nx
        exact nx m' (by omega) (by omega) f1 f2 f3 e12 e14
      · rw [if_pos w] at nx
        obtain ⟨p, p1, p2⟩ := h6 k hk'
        have hp := vAt_fi p2 w
        have e6 : m'.2.1 6 (k : Int) = (p : Int) := by rw [f2 6 (by decide)]; exact p1
        have hpl := p2.1
        rw [e6]
        refine ⟨⟨by omega, by omega⟩, ⟨by omega, by omega⟩, ⟨by omega, by omega⟩, ⟨by omega, by omega⟩, ⟨by omega, by omega⟩, ?_⟩
        refine nx _ (by omega) (by omega) (fun j hj => (if_neg hj).trans (f1 j hj)) (fun j hj => (if_neg hj).trans (f2 j hj)) f3 ?_ (fun v hv' => ?_)
        · show m'.1 12 + 1 = _
          rw [e12, List.length_append, List.length_singleton]; omega
        · show updI (m'.2.1 14) (m'.1 12) (960 + (p : Int)) (v : Int) = _
          unfold updI
          rw [List.length_append, List.length_singleton] at hv'
          by_cases q : v = (flt ((vM L).take k)).length
          · rw [if_pos (by omega), q, List.getD_eq_getElem?_getD, List.getElem?_append_right (Nat.le_refl _), Nat.sub_self, hp]
            rfl
          · rw [if_neg (by omega), e14 v (by omega), List.getD_eq_getElem?_getD, List.getD_eq_getElem?_getD, List.getElem?_append_left (by omega)]
theorem sp_begin42 {A : List Nat} {rc te go se : Ob} {K : Ob → Ob → Ob → Prop} (h6 : ∀ v : Nat, v < A.length → te.2.1 6 (v : Int) = (A.getD v 0 : Int)) (h8 : A.length ≤ 8) (h0 : se.1 0 = (A.length : Int)) (hK : ∀ se', se'.1 = se.1 → (∀ v : Nat, v < A.length → se'.2.1 0 (v : Int) = (A.getD v 0 : Int)) → K te go (sI se' 1 2)) : ∀ (n k : Nat) (se' : Ob), k ≤ A.length → A.length < n + k → se'.1 = se.1 → (∀ v : Nat, v < k → se'.2.1 0 (v : Int) = (A.getD v 0 : Int)) → Sea_begin_42 n (k : Int) rc te go se' K := by
  intro n
  induction n with
  | zero => intro k se' h1 h2; omega
  | succ n ih =>
    intro k se' hk hn e1 ea
    have e0 : se'.1 0 = (A.length : Int) := by rw [e1]; exact h0
    refine ⟨fun z => ?_, fun z => ⟨fun w => by omega, fun _ => ⟨fun w => by omega, fun _ => ⟨⟨by omega, by omega⟩, ?_⟩⟩⟩⟩
    · exact hK se' e1 (fun v hv => ea v (by omega))
    · rw [h6 k (by omega)]
      refine ⟨fun w => by omega, fun _ => ⟨⟨by omega, by omega⟩, ⟨by omega, by omega⟩, ⟨by omega, by omega⟩, ?_⟩⟩
      refine ih (k + 1) _ (by omega) (by omega) e1 (fun v hv => ?_)
      show updI (se'.2.1 0) (k : Int) (A.getD k 0 : Int) (v : Int) = _
      unfold updI
      by_cases q : v = k
      · rw [if_pos (by omega), q]
      · rw [if_neg (by omega)]; exact ea v (by omega)
theorem TL_tsz {L : List Sy} {g : Nat → Nat} (hW : WE L) (hg : ∀ x, x < L.length → (isV L x → isV L (g x)) ∧ (¬ isV L x → g x = x)) : ∀ (D x : Nat), x < L.length → (TL L g D x).length ≤ tsz L x := by
  intro D
  induction D with
  | zero => intro x hx; exact Nat.zero_le _
  | succ D ih =>
    intro x hx
    have ht := (tsz_le hW hx).1
    by_cases hv : isV L x
    · have h0 : nA L (g x) = 0 := by
        have := (hg x hx).1 hv
        unfold isV at this
        unfold nA
        rw [this]; rfl
      show (g x :: ((List.range (nA L (g x))).map (fun k => TL L g D (ch L (g x) k))).flatten).length ≤ _
      rw [h0]
      exact ht
    · show (g x :: ((List.range (nA L (g x))).map (fun k => TL L g D (ch L (g x) k))).flatten).length ≤ _
      rw [(hg x hx).2 hv]
      have key : ∀ n, n ≤ nA L x → (((List.range n).map (fun k => TL L g D (ch L x k))).flatten).length + (x + 1) ≤ ch L x n := by
        intro n
        induction n with
        | zero => intro _; rw [ch_0]; show 0 + (x + 1) ≤ x + 1; omega
        | succ n ihn =>
          intro hn
          have h1 := ihn (by omega)
          have h2 := ih _ (ch_lt hW hx (show n < nA L x by omega))
          rw [List.range_succ, List.map_append, List.flatten_append, List.length_append, ch_succ]
          have e : ((List.map (fun k => TL L g D (ch L x k)) [n]).flatten).length = (TL L g D (ch L x n)).length := by
            show (TL L g D (ch L x n) ++ []).length = _
            rw [List.append_nil]
          omega
      have h1 := key _ (Nat.le_refl _)
      have h2 := tsz_eq (E := L) hx
      have h3 : ch L x (nA L x) = x + 1 + sk (L.drop (x + 1)) (nA L x) := rfl
      rw [List.length_cons]
      omega
theorem fE_one (Q : Part) : fE [(24, Q)] = pL Q := by rw [fE_cons]; exact List.append_nil _
theorem rpN_0 (L : List Sy) (rp : Nat → Nat) (x : Nat) : rpN [] L rp x = fv L x := by
  show (if x < 0 then rp x else 0 + fv L (x - 0)) = _
  rw [if_neg (Nat.not_lt_zero _), Nat.zero_add, Nat.sub_zero]
theorem Good_0 {Q : Part} (hQ : PSh Q) (hov : ¬ ovP Q) : Good (fE [(24, Q)]) (bd 0 Q 0) (rpN [] (pL Q) (fun x => x)) := by
  have hW := WE_P hQ
  obtain ⟨h40, -, h8, -⟩ := ov_40 hov
  rw [fE_one]
  have hC : Clo ([] ++ pL Q) (Rf (rpN [] (pL Q) (fun x => x))) := Clo_new ⟨0, rfl⟩ (fun x hx => hx) (fun x y hx => absurd hx (Nat.not_lt_zero _))
  have hV : VR ([] ++ pL Q) (rpN [] (pL Q) (fun x => x)) := VR_new (fun x hx => hx) (fun x y hx => absurd hx (Nat.not_lt_zero _))
  have hA : Acy ([] ++ pL Q) (Rf (rpN [] (pL Q) (fun x => x))) := Acy_new ⟨0, rfl⟩ hW (fun x hx => hx) ⟨fun _ => 0, fun x y hx => absurd hx (Nat.not_lt_zero _), fun x hx => absurd hx (Nat.not_lt_zero _)⟩
  have hr : ∀ x, x < (pL Q).length → rpN [] (pL Q) (fun x => x) x < (pL Q).length ∧ rpN [] (pL Q) (fun x => x) (rpN [] (pL Q) (fun x => x) x) = rpN [] (pL Q) (fun x => x) x := fun x hx => by
    rw [rpN_0, rpN_0]
    have := fv_le hx
    exact ⟨by omega, fv_fv hx⟩
  obtain ⟨D, hD⟩ := Acy_Dp hW hr hA
  have hbd := bd_en (E0 := []) (cut := 0) hQ
  refine ⟨⟨D, hD, fun q hq => ⟨(hbd q hq).1, ?_⟩⟩, hC, hV, hA, hr, by rw [bd_len]; omega, fun q hq => (hbd q hq).2⟩
  have hq := (hbd q hq).1
  have hq : q.1 < (pL Q).length := hq
  have := TL_tsz (g := rpN [] (pL Q) (fun x => x)) hW (fun x hx => by
    rw [rpN_0]
    unfold isV en fv
    refine ⟨fun hv => ?_, fun hv => if_neg (fun q => hv q.1)⟩
    split
    · exact (fiL_at hx hv rfl).1
    · exact hv) D q.1 hq
  have := (tsz_le hW hq).2
  omega
theorem vn_from : ∀ (L : List Sy) (l : List Nat) (w : Nat), w ∈ L.foldl vnS l → w ∈ l ∨ ∃ x ∈ L, x.1 = -1 ∧ x.2 = w
  | [], l, w, h => Or.inl h
  | x :: L, l, w, h => by
    rw [List.foldl_cons] at h
    rcases vn_from L (vnS l x) w h with q | ⟨y, hy, q⟩
    · unfold vnS at q
      split at q
      · next c =>
        rcases List.mem_append.mp q with z | z
        · exact Or.inl z
        · exact Or.inr ⟨x, List.mem_cons_self, c.1, (List.mem_singleton.mp z).symm⟩
      · exact Or.inl q
    · exact Or.inr ⟨y, List.mem_cons_of_mem _ hy, q⟩
theorem fiL_lt {L : List Sy} {w : Nat} (h : w ∈ vN L) : fiL L w < L.length := by
  rcases vn_from L [] w h with q | ⟨x, hx, h1, h2⟩
  · exact absurd q (List.not_mem_nil)
  · obtain ⟨i, hi, e⟩ := List.mem_iff_getElem.mp hx
    have eg : L.getD i (0, 0) = x := by rw [List.getD_eq_getElem?_getD, List.getElem?_eq_getElem hi]; exact e
    have := fiL_le (w := w) hi (by rw [eg]; exact h1) (by rw [eg]; exact h2)
    omega
theorem TL_var {L : List Sy} {g : Nat → Nat} {x : Nat} (h : isV L (g x)) : ∀ D, (TL L g D x).length ≤ 1
  | 0 => Nat.zero_le _
  | D + 1 => by
    have h0 : nA L (g x) = 0 := by
      unfold isV at h
      unfold nA
      rw [h]; rfl
    show (g x :: ((List.range (nA L (g x))).map (fun k => TL L g D (ch L (g x) k))).flatten).length ≤ 1
    rw [h0]
    exact Nat.le_refl _
theorem tot_le1 {L : List Sy} {g : Nat → Nat} {D : Nat} : ∀ {xs : List Nat}, (∀ x ∈ xs, (TL L g D x).length ≤ 1) → tot L g D xs ≤ xs.length
  | [], _ => Nat.le_refl _
  | x :: xs, h => by
    have h1 := h x List.mem_cons_self
    have h2 := tot_le1 (xs := xs) (fun y hy => h y (List.mem_cons_of_mem _ hy))
    rw [tot_cons, List.length_cons]
    omega
theorem fiL_v {L : List Sy} {w : Nat} (h : w ∈ vN L) : isV L (fiL L w) := by
  rcases vn_from L [] w h with q | ⟨x, hx, h1, h2⟩
  · exact absurd q (List.not_mem_nil)
  · obtain ⟨i, hi, e⟩ := List.mem_iff_getElem.mp hx
    have eg : L.getD i (0, 0) = x := by rw [List.getD_eq_getElem?_getD, List.getElem?_eq_getElem hi]; exact e
    exact (fiL_at (w := w) hi (by rw [eg]; exact h1) (by rw [eg]; exact h2)).1
theorem fv_v {L : List Sy} {x : Nat} (hx : x < L.length) (h : isV L x) : isV L (fv L x) := by
  unfold isV en at h ⊢
  unfold fv
  split
  · exact (fiL_at hx h rfl).1
  · exact h
theorem asked_0 {Q : Part} (hQ : PSh Q) (hov : ¬ ovP Q) : ∃ D, (∀ x, x < (pL Q).length → Dp (pL Q) (rpN [] (pL Q) (fun x => x)) D x) ∧ tot (pL Q) (rpN [] (pL Q) (fun x => x)) D ((vN (pL Q)).map (fiL (pL Q))) ≤ 120 := by
  obtain ⟨⟨D, hD, -⟩, -⟩ := Good_0 hQ hov
  rw [fE_one] at hD
  have h8 : (vN (pL Q)).length ≤ 8 := by have := vM_len (pL Q); have := (ov_40 hov).2.1; omega
  refine ⟨D, hD, ?_⟩
  have := tot_le1 (L := pL Q) (g := rpN [] (pL Q) (fun x => x)) (D := D) (xs := (vN (pL Q)).map (fiL (pL Q))) (fun x hx => by
    obtain ⟨w, hw, e⟩ := List.mem_map.mp hx
    subst e
    refine TL_var ?_ D
    rw [rpN_0]
    exact fv_v (fiL_lt hw) (fiL_v hw))
  rw [List.length_map] at this
  omega
