/-! the search: the class copies a part into new cells -/
/-- where a variable stands first -/
def fiL : List Sy → Nat → Nat
  | [], _ => 0
  | e :: l, w => if e.1 = -1 ∧ e.2 = w then 0 else fiL l w + 1
theorem fiL_le : ∀ {L : List Sy} {w i : Nat}, i < L.length → (L.getD i (0, 0)).1 = -1 → (L.getD i (0, 0)).2 = w → fiL L w ≤ i
  | [], w, i, h, _, _ => absurd h (Nat.not_lt_zero _)
  | e :: l, w, 0, h, h1, h2 => by
    have h1 : e.1 = -1 := h1
    have h2 : e.2 = w := h2
    show (if e.1 = -1 ∧ e.2 = w then 0 else fiL l w + 1) ≤ 0
    rw [if_pos ⟨h1, h2⟩]
    exact Nat.le_refl _
  | e :: l, w, i + 1, h, h1, h2 => by
    show (if e.1 = -1 ∧ e.2 = w then 0 else fiL l w + 1) ≤ i + 1
    have := fiL_le (L := l) (w := w) (i := i) (Nat.lt_of_succ_lt_succ h) h1 h2
    split <;> omega
theorem fiL_at : ∀ {L : List Sy} {w i : Nat}, i < L.length → (L.getD i (0, 0)).1 = -1 → (L.getD i (0, 0)).2 = w → (L.getD (fiL L w) (0, 0)).1 = -1 ∧ (L.getD (fiL L w) (0, 0)).2 = w
  | [], w, i, h, _, _ => absurd h (Nat.not_lt_zero _)
  | e :: l, w, i, h, h1, h2 => by
    by_cases q : e.1 = -1 ∧ e.2 = w
    · have : fiL (e :: l) w = 0 := if_pos q
      rw [this]; exact q
    · have e1 : fiL (e :: l) w = fiL l w + 1 := if_neg q
      rw [e1]
      cases i with
      | zero => exact absurd ⟨h1, h2⟩ q
      | succ i => exact fiL_at (L := l) (i := i) (Nat.lt_of_succ_lt_succ h) h1 h2
/-- the first cell of the variable that stands in a cell; else the cell itself -/
def fv (L : List Sy) (j : Nat) : Nat := if (L.getD j (0, 0)).1 = -1 ∧ (L.getD j (0, 0)).2 ≠ 95 then fiL L (L.getD j (0, 0)).2 else j
theorem fv_le {L : List Sy} {j : Nat} (h : j < L.length) : fv L j ≤ j := by
  unfold fv
  split
  · next q => exact fiL_le h q.1 rfl
  · exact Nat.le_refl _
theorem fv_fv {L : List Sy} {j : Nat} (h : j < L.length) : fv L (fv L j) = fv L j := by
  by_cases q : (L.getD j (0, 0)).1 = -1 ∧ (L.getD j (0, 0)).2 ≠ 95
  · have e : fv L j = fiL L (L.getD j (0, 0)).2 := if_pos q
    have ha := fiL_at h q.1 rfl
    rw [e]
    unfold fv
    rw [if_pos ⟨ha.1, by rw [ha.2]; exact q.2⟩, ha.2]
  · have e : fv L j = j := if_neg q
    rw [e, e]
theorem fv_eq {L : List Sy} {i j : Nat} (hi : i < L.length) (hj : j < L.length) (h : fv L i = fv L j) : i = j ∨ ((L.getD i (0, 0)).1 = -1 ∧ (L.getD j (0, 0)).1 = -1 ∧ (L.getD i (0, 0)).2 = (L.getD j (0, 0)).2 ∧ (L.getD i (0, 0)).2 ≠ 95) := by
  by_cases q1 : (L.getD i (0, 0)).1 = -1 ∧ (L.getD i (0, 0)).2 ≠ 95 <;> by_cases q2 : (L.getD j (0, 0)).1 = -1 ∧ (L.getD j (0, 0)).2 ≠ 95
  · unfold fv at h
    rw [if_pos q1, if_pos q2] at h
    have a1 := (fiL_at hi q1.1 rfl).2
    have a2 := (fiL_at hj q2.1 rfl).2
    rw [h] at a1
    exact Or.inr ⟨q1.1, q2.1, a1.symm.trans a2, q1.2⟩
  · unfold fv at h
    rw [if_pos q1, if_neg q2] at h
    have a1 := fiL_at hi q1.1 rfl
    rw [h] at a1
    exact absurd ⟨a1.1, by rw [a1.2]; exact q1.2⟩ q2
  · unfold fv at h
    rw [if_neg q1, if_pos q2] at h
    have a1 := fiL_at hj q2.1 rfl
    rw [← h] at a1
    exact absurd ⟨a1.1, by rw [a1.2]; exact q2.2⟩ q1
  · unfold fv at h
    rw [if_neg q1, if_neg q2] at h
    exact Or.inl h
theorem vn_mem : ∀ (L : List Sy) (l : List Nat) (w : Nat), w ∈ L.foldl vnS l → w ∈ l ∨ (w ≠ 95 ∧ ∃ i, i < L.length ∧ (L.getD i (0, 0)).1 = -1 ∧ (L.getD i (0, 0)).2 = w)
  | [], l, w, h => Or.inl h
  | e :: L, l, w, h => by
    rcases vn_mem L (vnS l e) w h with q | ⟨q1, i, q2, q3, q4⟩
    · unfold vnS at q
      by_cases z : e.1 = -1 ∧ e.2 ≠ 95 ∧ e.2 ∉ l
      · rw [if_pos z] at q
        rcases List.mem_append.mp q with r | r
        · exact Or.inl r
        · have r := List.mem_singleton.mp r
          subst r
          exact Or.inr ⟨z.2.1, 0, Nat.succ_pos _, z.1, rfl⟩
      · rw [if_neg z] at q; exact Or.inl q
    · exact Or.inr ⟨q1, i + 1, Nat.succ_lt_succ q2, q3, q4⟩
theorem vN_ext (L T : List Sy) : ∃ t, vN (L ++ T) = vN L ++ t := by
  unfold vN
  rw [List.foldl_append]
  exact vn_ext _ _
theorem take_split {L : List Sy} {j : Nat} (h : j < L.length) : L = (L.take j ++ [L.getD j (0, 0)]) ++ L.drop (j + 1) := by
  have h1 := (List.take_append_drop j L).symm
  rw [List.drop_eq_getElem_cons h] at h1
  rw [List.getD_eq_getElem?_getD, List.getElem?_eq_getElem h, List.append_assoc]
  exact h1
theorem take_succ {L : List Sy} {j : Nat} (h : j < L.length) : L.take (j + 1) = L.take j ++ [L.getD j (0, 0)] := by
  rw [List.take_add_one, List.getD_eq_getElem?_getD, List.getElem?_eq_getElem h]; rfl
theorem take_get {L : List Sy} {i j : Nat} (h : i < j) : (L.take j).getD i (0, 0) = L.getD i (0, 0) := by
  rw [List.getD_eq_getElem?_getD, List.getD_eq_getElem?_getD, List.getElem?_take, if_pos h]
/-- a named variable's number among the names of variables -/
theorem vN_idx {L : List Sy} {j : Nat} (h : j < L.length) (h1 : (L.getD j (0, 0)).1 = -1) (h2 : (L.getD j (0, 0)).2 ≠ 95) : (fiL L (L.getD j (0, 0)).2 < j → idx (vN L) (L.getD j (0, 0)).2 < (vN (L.take j)).length ∧ vN (L.take (j + 1)) = vN (L.take j)) ∧ (fiL L (L.getD j (0, 0)).2 = j → idx (vN L) (L.getD j (0, 0)).2 = (vN (L.take j)).length ∧ vN (L.take (j + 1)) = vN (L.take j) ++ [(L.getD j (0, 0)).2]) := by
  have es := take_succ h
  obtain ⟨t, ht⟩ := vN_ext (L.take (j + 1)) (L.drop (j + 1))
  rw [List.take_append_drop] at ht
  have esn : vN (L.take (j + 1)) = vnS (vN (L.take j)) (L.getD j (0, 0)) := by rw [es, vN_snoc]
  refine ⟨fun hlt => ?_, fun heq => ?_⟩
  · have ha := fiL_at h h1 rfl
    have hm : (L.getD j (0, 0)).2 ∈ vN (L.take j) := by
      have hlen : fiL L (L.getD j (0, 0)).2 < (L.take j).length := by rw [List.length_take]; omega
      have hx : (L.take j).getD (fiL L (L.getD j (0, 0)).2) (0, 0) ∈ L.take j := gD_mem hlen
      rw [take_get hlt] at hx
      have := mem_vN hx ha.1 (by rw [ha.2]; exact h2)
      rw [ha.2] at this
      exact this
    have e2 : vN (L.take (j + 1)) = vN (L.take j) := by rw [esn]; exact if_neg (fun z => z.2.2 hm)
    refine ⟨?_, e2⟩
    rw [ht, e2, idx_app t hm]
    exact (idx_lt hm).1
  · have hm : (L.getD j (0, 0)).2 ∉ vN (L.take j) := fun z => by
      rcases vn_mem (L.take j) [] _ z with q | ⟨-, i, q2, q3, q4⟩
      · exact absurd q (List.not_mem_nil)
      · rw [List.length_take] at q2
        rw [take_get (by omega)] at q3 q4
        have := fiL_le (L := L) (i := i) (by omega) q3 q4
        omega
    have e2 : vN (L.take (j + 1)) = vN (L.take j) ++ [(L.getD j (0, 0)).2] := by rw [esn]; exact if_pos ⟨h1, h2, hm⟩
    refine ⟨?_, e2⟩
    rw [ht, e2, idx_app t (List.mem_append_right _ (List.mem_singleton.mpr rfl)), idx_new hm]
/-- sizes by the class's measure are sizes of terms -/
theorem PZ_sk {NL : List Nat} {VL : List Nat} {sym sz : Int → Int} {B : Int} {p : Part} (hp : PSh p) (h4 : ∀ x ∈ pL p, x.1 ≤ 4) (hs : ∀ j : Nat, j < (pL p).length → sym (B + (j : Int)) = sC NL VL ((pL p).getD j (0, 0))) (h : PZ sym sz B p) : ∀ j : Nat, j < (pL p).length → sz (B + (j : Int)) = (tsz (pL p) j : Int) := by
  have hW : WE (pL p) := by
    obtain ⟨b, hb⟩ := PSh_tms hp
    exact WE_tms hb
  have key : ∀ (n j : Nat), j < (pL p).length → (pL p).length ≤ n + j → sz (B + (j : Int)) = (tsz (pL p) j : Int) := by
    intro n
    induction n with
    | zero => intro j h1 h2; omega
    | succ n ih =>
      intro j h1 h2
      obtain ⟨g1, g2, g3⟩ := h.2.2 (B + (j : Int)) (by omega) (by omega)
      have ea : (arS (sym (B + (j : Int)))).toNat = nA (pL p) j := by
        rw [hs j h1, arS_sC (PSh_ok hp _ (gD_mem h1)) (h4 _ (gD_mem h1))]
        show ((nA (pL p) j : Nat) : Int).toNat = _
        exact Int.toNat_natCast _
      rw [ea] at g3
      have chn : ∀ (k : Nat), k ≤ nA (pL p) j → ∀ z : Int, Chn sz (B + ((pL p).length : Int)) k (B + (ch (pL p) j (nA (pL p) j - k) : Int)) z → z = B + (ch (pL p) j (nA (pL p) j) : Int) := by
        intro k
        induction k with
        | zero =>
          intro _ z hz
          have hz : B + (ch (pL p) j (nA (pL p) j - 0) : Int) = z := hz
          rw [Nat.sub_zero] at hz
          exact hz.symm
        | succ k ihk =>
          intro hk z hz
          obtain ⟨z1, z2⟩ := hz
          have hlt := ch_lt hW h1 (show nA (pL p) j - (k + 1) < nA (pL p) j by omega)
          have hgt := ch_gt (E := pL p) j (nA (pL p) j - (k + 1))
          rw [ih (ch (pL p) j (nA (pL p) j - (k + 1))) hlt (by omega)] at z2
          refine ihk (by omega) z ?_
          have e := ch_succ (pL p) j (nA (pL p) j - (k + 1))
          rw [show nA (pL p) j - (k + 1) + 1 = nA (pL p) j - k by omega] at e
          rw [e]
          rw [show B + (ch (pL p) j (nA (pL p) j - (k + 1)) : Int) + (tsz (pL p) (ch (pL p) j (nA (pL p) j - (k + 1))) : Int) = B + ((ch (pL p) j (nA (pL p) j - (k + 1)) + tsz (pL p) (ch (pL p) j (nA (pL p) j - (k + 1))) : Nat) : Int) by omega] at z2
          exact z2
      have := chn (nA (pL p) j) (Nat.le_refl _) (B + (j : Int) + sz (B + (j : Int))) (by
        rw [Nat.sub_self, ch_0, show B + ((j + 1 : Nat) : Int) = B + (j : Int) + 1 by omega]
        exact g3)
      have e2 := tsz_eq h1
      have e3 : ch (pL p) j (nA (pL p) j) = j + 1 + sk ((pL p).drop (j + 1)) (nA (pL p) j) := rfl
      omega
  exact fun j hj => key (pL p).length j hj (by omega)
def rpN (E0 L : List Sy) (rp : Nat → Nat) : Nat → Nat := fun x => if x < E0.length then rp x else E0.length + fv L (x - E0.length)
def dpN (E0 L : List Sy) (dp : Nat → Nat) : Nat → Nat := fun x => if x < E0.length then dp x else if fv L (x - E0.length) = x - E0.length then 0 else 1
/-- what is copied so far -/
def CpI (NL : List Nat) (E0 L : List Sy) (te0 te : Ob) (j : Nat) : Prop := te.1 0 = (E0.length : Int) + (j : Int) ∧ (∀ i : Nat, i < j → te.2.1 0 ((E0.length : Int) + (i : Int)) = cs NL (L.getD i (0, 0)) ∧ te.2.1 1 ((E0.length : Int) + (i : Int)) = (tsz L i : Int) ∧ te.2.1 2 ((E0.length : Int) + (i : Int)) = if fv L i = i then -1 else ((E0.length + fv L i : Nat) : Int)) ∧ (∀ y, y < (E0.length : Int) → te.2.1 0 y = te0.2.1 0 y ∧ te.2.1 1 y = te0.2.1 1 y ∧ te.2.1 2 y = te0.2.1 2 y) ∧ te.1 1 = te0.1 1 ∧ te.1 3 = te0.1 3 ∧ te.2.1 3 = te0.2.1 3 ∧ te.2.1 4 = te0.2.1 4 ∧ ∀ v : Nat, v < 8 → te.2.1 6 (v : Int) = if v < (vN (L.take j)).length then ((E0.length + fiL L ((vN (L.take j)).getD v 0) : Nat) : Int) else -1
theorem fill_6 {te : Ob} {K : Ob → Prop} (hK : ∀ te', te'.1 = te.1 → (∀ j, j ≠ 6 → te'.2.1 j = te.2.1 j) → (∀ v : Nat, v < 8 → te'.2.1 6 (v : Int) = -1) → K te') : wp_Arr_fill_26 (-1) te K := by
  have loop : ∀ (n k : Nat) (te' : Ob), k ≤ 8 → 8 < n + k → te'.1 = te.1 → (∀ j, j ≠ 6 → te'.2.1 j = te.2.1 j) → (∀ v : Nat, v < k → te'.2.1 6 (v : Int) = -1) → Arr_fill_26_5 n (-1) (k : Int) 8 te' K := by
    intro n
    induction n with
    | zero => intro k te' h1 h2; omega
    | succ n ih =>
      intro k te' h1 h2 e1 e2 e3
      refine ⟨fun z => hK te' e1 e2 (fun v hv => e3 v (by omega)), fun z => ⟨⟨by omega, by omega⟩, ⟨by omega, by omega⟩, ?_⟩⟩
      refine ih (k + 1) _ (by omega) (by omega) e1 (fun j hj => (if_neg hj).trans (e2 j hj)) (fun v hv => ?_)
      show (if (v : Int) = (k : Int) then (-1 : Int) else te'.2.1 6 (v : Int)) = -1
      split
      · rfl
      · exact e3 v (by omega)
  exact ⟨9, loop 9 0 te (by decide) (by decide) rfl (fun _ _ => rfl) (fun v hv => absurd hv (Nat.not_lt_zero _))⟩
theorem sC_nv {NL VL : List Nat} {x : Sy} (h : x.1 ≠ -1) : sC NL VL x = sC NL [] x := by
  unfold sC
  rw [if_neg h, if_neg h]
theorem cs_nn {NL : List Nat} {e : Sy} (h : okS e) (hv : e.1 ≠ -1) : 0 ≤ sC NL [] e := by
  rcases h with (h | h | h | ⟨h1, h2, h3⟩) | h
  · exact absurd h hv
  · rw [h, sC_l]; decide
  · rw [h, sC_n]; decide
  · unfold sC
    rw [if_neg hv, if_neg (by omega), if_neg h2, if_neg h3]
    omega
  · rw [h, sC_c]; decide
theorem sp_copy_p {NL : List Nat} {Cs A C : List Part} {P : Part} {pr te0 : Ob} {E0 : List Sy} {rp dp : Nat → Nat} {chl : List Nat} {K : Int → Ob → Prop} (hT : TeS NL E0 te0 rp dp chl) (hWE : WE (E0 ++ pL P)) (hWE0 : WE E0) (hPt : PtAll NL Cs pr) (hCs : Cs = A ++ P :: C) (hp0 : pr.1 0 = ((psL Cs).length : Int)) (h24 : Cs.length ≤ 24) (hp960 : (psL Cs).length ≤ 960) (hP : PSh P) (hov : ¬ ovP P) (hlen : E0.length + (pL P).length ≤ 2440)
    (hK : ∀ te', TeS NL (E0 ++ pL P) te' (rpN E0 (pL P) rp) (dpN E0 (pL P) dp) chl → te'.1 3 = te0.1 3 → te'.2.1 3 = te0.2.1 3 → (∀ y, y < (E0.length : Int) → te'.2.1 2 y = te0.2.1 2 y) → (∀ v : Nat, v < (vN (pL P)).length → te'.2.1 6 (v : Int) = ((E0.length + fiL (pL P) ((vN (pL P)).getD v 0) : Nat) : Int)) → K (E0.length : Int) te') : wp_Ter_copy_p (A.length : Int) pr te0 K := by
  obtain ⟨hC, hFo, hTc⟩ := hT
  have hPP := hPt A P C hCs
  obtain ⟨pe, psy, pz⟩ := hPP
  have hB : (psL A).length + (pL P).length ≤ (psL Cs).length := by rw [hCs, psL_app, psL_cons, List.length_append, List.length_append]; omega
  have hAl : A.length < Cs.length := by rw [hCs, List.length_append, List.length_cons]; omega
  have b := ov_40 hov
  have hsz := PZ_sk hP b.2.2.2 psy pz
  have hv8 : (vN (pL P)).length ≤ 8 := by have := vM_len (pL P); have := b.2.1; omega
  refine fill_6 (fun te1 f1 f2 f3 => ?_)
  have loop : ∀ (n j : Nat) (te : Ob), j ≤ (pL P).length → (pL P).length < n + j → CpI NL E0 (pL P) te0 te j → Ter_copy_p_27 n (E0.length : Int) (((psL A).length : Int) + ((pL P).length : Int)) (((psL A).length : Int) + (j : Int)) pr te K := by
    intro n
    induction n with
    | zero => intro j te h1 h2; omega
    | succ n ih =>
      intro j te h1 h2 hI
      obtain ⟨i0, i1, i2, i3, i4, i5, i6, i7⟩ := hI
      refine ⟨fun z => ?_, fun z => ⟨fun z2 => by omega, fun _ => ?_⟩⟩
      · have ej : j = (pL P).length := by omega
        subst ej
        rw [List.take_length] at i7
        refine hK te ⟨⟨?_, ?_, fun x hx => ?_⟩, fun x hx => ⟨?_, ?_⟩, ?_⟩ i4 i5 (fun y hy => (i2 y hy).2.2) (fun v hv => ?_)
        · rw [i0, List.length_append]; omega
        · rw [List.length_append]; exact hlen
        · by_cases q : x < E0.length
          · rw [en_app q, tsz_app hWE0 q, (i2 (x : Int) (by omega)).1, (i2 (x : Int) (by omega)).2.1]
            exact hC.2.2 x q
          · obtain ⟨i, hi⟩ : ∃ i, x = E0.length + i := ⟨x - E0.length, by omega⟩
            subst hi
            rw [List.length_append] at hx
            rw [en_app_r, tsz_app_r]
            have := i1 i (by omega)
            rw [show ((E0.length : Int) + (i : Int)) = ((E0.length + i : Nat) : Int) by omega] at this
            exact ⟨this.1, this.2.1⟩
        · unfold dpN
          by_cases q : x < E0.length
          · rw [if_pos q]; exact (hFo x q).1
          · rw [if_neg q]; split <;> omega
        · by_cases q : x < E0.length
          · rw [(i2 (x : Int) (by omega)).2.2]
            have er : rpN E0 (pL P) rp x = rp x := if_pos q
            have ed : dpN E0 (pL P) dp x = dp x := if_pos q
            rw [er, ed]
            rcases (hFo x q).2 with w | ⟨y, w1, w2, w3, w4⟩
            · exact Or.inl w
            · refine Or.inr ⟨y, by rw [List.length_append]; omega, w2, ?_, ?_⟩
              · rw [show rpN E0 (pL P) rp y = rp y from if_pos w1]; exact w3
              · rw [show dpN E0 (pL P) dp y = dp y from if_pos w1]; exact w4
          · obtain ⟨i, hi⟩ : ∃ i, x = E0.length + i := ⟨x - E0.length, by omega⟩
            subst hi
            rw [List.length_append] at hx
            have hs := (i1 i (by omega)).2.2
            rw [show ((E0.length : Int) + (i : Int)) = ((E0.length + i : Nat) : Int) by omega] at hs
            have er : ∀ i', rpN E0 (pL P) rp (E0.length + i') = E0.length + fv (pL P) i' := fun i' => by
              unfold rpN
              rw [if_neg (by omega), show E0.length + i' - E0.length = i' by omega]
            have ed : ∀ i', dpN E0 (pL P) dp (E0.length + i') = if fv (pL P) i' = i' then 0 else 1 := fun i' => by
              unfold dpN
              rw [if_neg (by omega), show E0.length + i' - E0.length = i' by omega]
            rw [hs, er, ed]
            by_cases w : fv (pL P) i = i
            · rw [if_pos w, if_pos w]
              exact Or.inl ⟨rfl, by rw [w], rfl⟩
            · rw [if_neg w, if_neg w]
              have hle := fv_le (L := pL P) (j := i) (by omega)
              have hff := fv_fv (L := pL P) (j := i) (by omega)
              refine Or.inr ⟨E0.length + fv (pL P) i, by rw [List.length_append]; omega, rfl, ?_, ?_⟩
              · rw [er, hff]
              · rw [ed, if_pos hff]
        · rw [i3, i6]
          obtain ⟨t1, t2, t3, t4⟩ := hTc
          refine ⟨t1, t2, t3, fun c hc => ⟨by rw [List.length_append]; have := (t4 c hc).1; omega, ?_⟩⟩
          rw [(i2 (c : Int) (by have := (t4 c hc).1; omega)).2.2]
          exact (t4 c hc).2
        · rw [i7 v (by omega), if_pos hv]
      · have hj : j < (pL P).length := by omega
        have hsy := psy j hj
        have hsj := hsz j hj
        have hok := PSh_ok hP _ (gD_mem hj)
        have u0 : te.1 0 < 2440 := by omega
        refine ⟨fun z2 => by omega, fun _ => ⟨fun z2 => by omega, fun _ => ⟨⟨by omega, by omega⟩, ?_⟩⟩⟩
        rw [hsy]
        -- the next cell
        have nx : ∀ (te2 : Ob) (st : Int), te2.1 = te.1 → te2.2.1 0 = updI (te.2.1 0) (te.1 0) (cs NL ((pL P).getD j (0, 0))) → te2.2.1 1 = updI (te.2.1 1) (te.1 0) (tsz (pL P) j : Int) → te2.2.1 2 = te.2.1 2 → te2.2.1 3 = te.2.1 3 → te2.2.1 4 = te.2.1 4 → (st = if fv (pL P) j = j then -1 else ((E0.length + fv (pL P) j : Nat) : Int)) → (∀ v : Nat, v < 8 → te2.2.1 6 (v : Int) = if v < (vN ((pL P).take (j + 1))).length then ((E0.length + fiL (pL P) ((vN ((pL P).take (j + 1))).getD v 0) : Nat) : Int) else -1) → Ter_copy_p_115 (fun x3 x4 x5 te' => Ter_copy_p_27 n x3 x4 x5 pr te' K) (E0.length : Int) (((psL A).length : Int) + ((pL P).length : Int)) (((psL A).length : Int) + (j : Int)) st (te.1 0) pr te2 K := fun te2 st g0 g1 g2 g3 g4 g5 hst hv => by
          have q0 : te2.1 0 = te.1 0 := by rw [g0]
          refine ⟨⟨by omega, by omega⟩, ⟨by omega, by omega⟩, ⟨by omega, by omega⟩, ?_⟩
          rw [show ((psL A).length : Int) + (j : Int) + 1 = ((psL A).length : Int) + ((j + 1 : Nat) : Int) by omega]
          refine ih (j + 1) _ (by omega) (by omega) ⟨?_, fun i hi => ?_, fun y hy => ?_, ?_, ?_, ?_, ?_, hv⟩
          · show te2.1 0 + 1 = _; omega
          · show te2.2.1 0 _ = _ ∧ te2.2.1 1 _ = _ ∧ updI (te2.2.1 2) (te.1 0) st _ = _
            rw [g1, g2, g3]
            unfold updI
            by_cases e : i = j
            · subst e
              rw [if_pos (by omega), if_pos (by omega), if_pos (by omega)]
              exact ⟨rfl, rfl, hst⟩
            · rw [if_neg (by omega), if_neg (by omega), if_neg (by omega)]
              exact i1 i (by omega)
          · show te2.2.1 0 _ = _ ∧ te2.2.1 1 _ = _ ∧ updI (te2.2.1 2) (te.1 0) st _ = _
            rw [g1, g2, g3]
            unfold updI
            rw [if_neg (by omega), if_neg (by omega), if_neg (by omega)]
            exact i2 y hy
          · show te2.1 1 = _; rw [g0]; exact i3
          · show te2.1 3 = _; rw [g0]; exact i4
          · show te2.2.1 3 = _; rw [g4]; exact i5
          · show te2.2.1 4 = _; rw [g5]; exact i6
        have esn : vN ((pL P).take (j + 1)) = vnS (vN ((pL P).take j)) ((pL P).getD j (0, 0)) := by rw [take_succ hj, vN_snoc]
        -- a cell that begins on its own
        have own : ¬ ((pL P).getD j (0, 0)).1 = -1 ∨ ((pL P).getD j (0, 0)).2 = 95 → fv (pL P) j = j ∧ vN ((pL P).take (j + 1)) = vN ((pL P).take j) := fun q => by
          refine ⟨if_neg (fun w => ?_), ?_⟩
          · rcases q with q | q
            · exact q w.1
            · exact w.2 q
          · rw [esn]
            refine if_neg (fun w => ?_)
            rcases q with q | q
            · exact q w.1
            · exact w.2.1 q
        have size : ∀ (s0 x6 : Int), s0 = cs NL ((pL P).getD j (0, 0)) → ((-2) < x6 → ¬ ((pL P).getD j (0, 0)).1 = -1 ∨ ((pL P).getD j (0, 0)).2 = 95) → (¬ (-2) < x6 → ((pL P).getD j (0, 0)).1 = -1 ∧ ((pL P).getD j (0, 0)).2 ≠ 95 ∧ (-2) - x6 = (idx (vN (pL P)) ((pL P).getD j (0, 0)).2 : Int)) → Ter_copy_p_71 (fun x3 x4 x5 te' => Ter_copy_p_27 n x3 x4 x5 pr te' K) (E0.length : Int) (((psL A).length : Int) + ((pL P).length : Int)) (((psL A).length : Int) + (j : Int)) x6 s0 (te.1 0) pr te K := fun s0 x6 hs0 hx1 hx2 => by
          refine ⟨⟨by omega, by omega⟩, fun w => by omega, fun _ => ⟨fun w => by omega, fun _ => ⟨⟨by omega, by omega⟩, ?_⟩⟩⟩
          rw [hsj, hs0]
          refine ⟨⟨by omega, by omega⟩, fun w => ?_, fun w => ?_⟩
          · obtain ⟨o1, o2⟩ := own (hx1 w)
            refine nx _ (-1) rfl rfl rfl rfl rfl rfl (by rw [if_pos o1]) (fun v hv => ?_)
            rw [o2]; exact i7 v hv
          · obtain ⟨c1, c2, c3⟩ := hx2 w
            have hmem := mem_vN (gD_mem hj) c1 c2
            have hil := (idx_lt hmem).1
            have hvi := vN_idx hj c1 c2
            have hfle := fiL_le (L := pL P) hj c1 rfl
            have hfv : fv (pL P) j = fiL (pL P) ((pL P).getD j (0, 0)).2 := if_pos ⟨c1, c2⟩
            rw [c3]
            refine ⟨⟨by omega, by omega⟩, fun _ => ⟨⟨by omega, by omega⟩, fun hne => ?_, fun heq => ⟨⟨by omega, by omega⟩, ?_⟩⟩, fun z => by omega⟩
            · -- a later cell of the variable
              have hne : ¬ te.2.1 6 (idx (vN (pL P)) ((pL P).getD j (0, 0)).2 : Int) = -1 := hne
              have e7 := i7 (idx (vN (pL P)) ((pL P).getD j (0, 0)).2) (by omega)
              have hlt : fiL (pL P) ((pL P).getD j (0, 0)).2 < j := by
                by_cases w2 : fiL (pL P) ((pL P).getD j (0, 0)).2 = j
                · have := (hvi.2 w2).1
                  rw [if_neg (by omega)] at e7
                  exact absurd e7 hne
                · omega
              obtain ⟨v1, v2⟩ := hvi.1 hlt
              rw [if_pos v1] at e7
              have hg2 : (vN ((pL P).take j)).getD (idx (vN (pL P)) ((pL P).getD j (0, 0)).2) 0 = ((pL P).getD j (0, 0)).2 := by
                obtain ⟨t, ht⟩ := vN_ext ((pL P).take j) ((pL P).drop j)
                rw [List.take_append_drop] at ht
                have := (idx_lt hmem).2
                rw [ht, List.getD_eq_getElem?_getD, List.getElem?_append_left (by rw [← ht]; exact v1), ← List.getD_eq_getElem?_getD, ← ht] at this
                exact this
              rw [hg2] at e7
              show Ter_copy_p_115 _ _ _ _ (te.2.1 6 (idx (vN (pL P)) ((pL P).getD j (0, 0)).2 : Int)) _ _ _ _
              rw [e7]
              refine nx _ _ rfl rfl rfl rfl rfl rfl (by rw [hfv, if_neg (by omega)]) (fun v hv => ?_)
              rw [v2]; exact i7 v hv
            · -- its first cell
              have heq : te.2.1 6 (idx (vN (pL P)) ((pL P).getD j (0, 0)).2 : Int) = -1 := heq
              have e7 := i7 (idx (vN (pL P)) ((pL P).getD j (0, 0)).2) (by omega)
              have hw2 : fiL (pL P) ((pL P).getD j (0, 0)).2 = j := by
                by_cases w2 : fiL (pL P) ((pL P).getD j (0, 0)).2 = j
                · exact w2
                · have := (hvi.1 (by omega)).1
                  rw [if_pos this] at e7
                  omega
              obtain ⟨v1, v2⟩ := hvi.2 hw2
              show Ter_copy_p_115 _ _ _ _ (te.2.1 6 (idx (vN (pL P)) ((pL P).getD j (0, 0)).2 : Int)) _ _ _ _
              rw [heq]
              refine nx _ (-1) rfl rfl rfl rfl rfl rfl (by rw [hfv, hw2, if_pos rfl]) (fun v hv => ?_)
              show (if (v : Int) = (idx (vN (pL P)) ((pL P).getD j (0, 0)).2 : Int) then te.1 0 else te.2.1 6 (v : Int)) = _
              rw [v2, List.length_append, List.length_singleton]
              by_cases e : v = idx (vN (pL P)) ((pL P).getD j (0, 0)).2
              · rw [if_pos (by omega), if_pos (by omega)]
                have : (vN ((pL P).take j) ++ [((pL P).getD j (0, 0)).2]).getD v 0 = ((pL P).getD j (0, 0)).2 := by
                  rw [e, v1, List.getD_eq_getElem?_getD, List.getElem?_append_right (Nat.le_refl _), Nat.sub_self]; rfl
                rw [this, hw2]
                omega
              · rw [if_neg (by omega), i7 v hv]
                by_cases e2 : v < (vN ((pL P).take j)).length
                · rw [if_pos e2, if_pos (by omega), List.getD_eq_getElem?_getD, List.getD_eq_getElem?_getD, List.getElem?_append_left e2]
                · rw [if_neg e2, if_neg (by omega)]
        by_cases hvar : ((pL P).getD j (0, 0)).1 = -1
        · have ecs : cs NL ((pL P).getD j (0, 0)) = -1 := if_pos hvar
          by_cases h95 : ((pL P).getD j (0, 0)).2 = 95
          · have esC : sC NL (vN (pL P)) ((pL P).getD j (0, 0)) = -1 := by unfold sC; rw [if_pos hvar, if_pos h95]
            rw [esC]
            exact ⟨fun z => absurd z (by decide), fun _ => size (-1) (-1) ecs.symm (fun _ => Or.inr h95) (fun z => absurd (by decide) z)⟩
          · have esC : sC NL (vN (pL P)) ((pL P).getD j (0, 0)) = -2 - (idx (vN (pL P)) ((pL P).getD j (0, 0)).2 : Int) := by unfold sC; rw [if_pos hvar, if_neg h95]
            rw [esC]
            exact ⟨fun z => by omega, fun _ => size (-1) _ ecs.symm (fun z => by omega) (fun z => ⟨hvar, h95, by omega⟩)⟩
        · have ecs : cs NL ((pL P).getD j (0, 0)) = sC NL [] ((pL P).getD j (0, 0)) := if_neg hvar
          have esC : sC NL (vN (pL P)) ((pL P).getD j (0, 0)) = sC NL [] ((pL P).getD j (0, 0)) := sC_nv hvar
          have hnn := cs_nn (NL := NL) hok hvar
          rw [esC]
          exact ⟨fun _ => size _ _ ecs.symm (fun _ => Or.inl hvar) (fun z => by omega), fun z => absurd hnn z⟩
  have hI0 : CpI NL E0 (pL P) te0 te1 0 := by
    refine ⟨by rw [f1]; have := hC.1; omega, fun i hi => absurd hi (Nat.not_lt_zero _), fun y _ => by rw [f2 0 (by decide), f2 1 (by decide), f2 2 (by decide)]; exact ⟨rfl, rfl, rfl⟩, by rw [f1], by rw [f1], f2 3 (by decide), f2 4 (by decide), fun v hv => ?_⟩
    rw [f3 v hv]
    have hz : ¬ v < (vN ((pL P).take 0)).length := Nat.not_lt_zero _
    rw [if_neg hz]
  have fin : ∃ n27, Ter_copy_p_27 n27 (te1.1 0) (((psL A).length : Int) + ((pL P).length : Int)) ((psL A).length : Int) pr te1 K := by
    refine ⟨(pL P).length + 1, ?_⟩
    have := loop ((pL P).length + 1) 0 te1 (Nat.zero_le _) (by omega) hI0
    rw [show ((psL A).length : Int) + ((0 : Nat) : Int) = ((psL A).length : Int) by omega] at this
    rw [hI0.1, show (E0.length : Int) + ((0 : Nat) : Int) = (E0.length : Int) by omega]
    exact this
  refine ⟨fun z => by omega, fun _ => ⟨fun _ => ⟨⟨by omega, by omega⟩, ?_⟩, fun z => by omega⟩⟩
  rw [pe]
  have hPA : PtAll NL A pr := fun A' q C' h' => hPt A' q (C' ++ P :: C) (by rw [hCs, h', List.append_assoc]; rfl)
  refine ⟨fun z2 => ?_, fun z2 => ⟨fun _ => ⟨⟨by omega, by omega⟩, ⟨by omega, by omega⟩, ?_⟩, fun z3 => by omega⟩⟩
  · have : A = [] := by
      cases A with
      | nil => rfl
      | cons a A => rw [List.length_cons] at z2; omega
    subst this
    exact fin
  · rw [start_of hPA (by omega)]
    exact fin
theorem sp_copy_r {NL : List Nat} {Cs A C : List Part} {P : Part} {rc te0 : Ob} {E0 : List Sy} {rp dp : Nat → Nat} {chl : List Nat} {K : Int → Ob → Prop} (hT : TeS NL E0 te0 rp dp chl) (hWE : WE (E0 ++ pL P)) (hWE0 : WE E0) (hPt : PtAll NL Cs rc) (hCs : Cs = A ++ P :: C) (hp0 : rc.1 0 = ((psL Cs).length : Int)) (h24 : Cs.length ≤ 24) (hp240 : (psL Cs).length ≤ 240) (hP : PSh P) (hov : ¬ ovP P) (hlen : E0.length + (pL P).length ≤ 2440)
    (hK : ∀ te', TeS NL (E0 ++ pL P) te' (rpN E0 (pL P) rp) (dpN E0 (pL P) dp) chl → te'.1 3 = te0.1 3 → te'.2.1 3 = te0.2.1 3 → (∀ y, y < (E0.length : Int) → te'.2.1 2 y = te0.2.1 2 y) → (∀ v : Nat, v < (vN (pL P)).length → te'.2.1 6 (v : Int) = ((E0.length + fiL (pL P) ((vN (pL P)).getD v 0) : Nat) : Int)) → K (E0.length : Int) te') : wp_Ter_copy_r (A.length : Int) rc te0 K := by
  obtain ⟨hC, hFo, hTc⟩ := hT
  have hPP := hPt A P C hCs
  obtain ⟨pe, psy, pz⟩ := hPP
  have hB : (psL A).length + (pL P).length ≤ (psL Cs).length := by rw [hCs, psL_app, psL_cons, List.length_append, List.length_append]; omega
  have hAl : A.length < Cs.length := by rw [hCs, List.length_append, List.length_cons]; omega
  have b := ov_40 hov
  have hsz := PZ_sk hP b.2.2.2 psy pz
  have hv8 : (vN (pL P)).length ≤ 8 := by have := vM_len (pL P); have := b.2.1; omega
  refine fill_6 (fun te1 f1 f2 f3 => ?_)
  have loop : ∀ (n j : Nat) (te : Ob), j ≤ (pL P).length → (pL P).length < n + j → CpI NL E0 (pL P) te0 te j → Ter_copy_r_27 n (E0.length : Int) (((psL A).length : Int) + ((pL P).length : Int)) (((psL A).length : Int) + (j : Int)) rc te K := by
    intro n
    induction n with
    | zero => intro j te h1 h2; omega
    | succ n ih =>
      intro j te h1 h2 hI
      obtain ⟨i0, i1, i2, i3, i4, i5, i6, i7⟩ := hI
      refine ⟨fun z => ?_, fun z => ⟨fun z2 => by omega, fun _ => ?_⟩⟩
      · have ej : j = (pL P).length := by omega
        subst ej
        rw [List.take_length] at i7
        refine hK te ⟨⟨?_, ?_, fun x hx => ?_⟩, fun x hx => ⟨?_, ?_⟩, ?_⟩ i4 i5 (fun y hy => (i2 y hy).2.2) (fun v hv => ?_)
        · rw [i0, List.length_append]; omega
        · rw [List.length_append]; exact hlen
        · by_cases q : x < E0.length
          · rw [en_app q, tsz_app hWE0 q, (i2 (x : Int) (by omega)).1, (i2 (x : Int) (by omega)).2.1]
            exact hC.2.2 x q
          · obtain ⟨i, hi⟩ : ∃ i, x = E0.length + i := ⟨x - E0.length, by omega⟩
            subst hi
            rw [List.length_append] at hx
            rw [en_app_r, tsz_app_r]
            have := i1 i (by omega)
            rw [show ((E0.length : Int) + (i : Int)) = ((E0.length + i : Nat) : Int) by omega] at this
            exact ⟨this.1, this.2.1⟩
        · unfold dpN
          by_cases q : x < E0.length
          · rw [if_pos q]; exact (hFo x q).1
          · rw [if_neg q]; split <;> omega
        · by_cases q : x < E0.length
          · rw [(i2 (x : Int) (by omega)).2.2]
            have er : rpN E0 (pL P) rp x = rp x := if_pos q
            have ed : dpN E0 (pL P) dp x = dp x := if_pos q
            rw [er, ed]
            rcases (hFo x q).2 with w | ⟨y, w1, w2, w3, w4⟩
            · exact Or.inl w
            · refine Or.inr ⟨y, by rw [List.length_append]; omega, w2, ?_, ?_⟩
              · rw [show rpN E0 (pL P) rp y = rp y from if_pos w1]; exact w3
              · rw [show dpN E0 (pL P) dp y = dp y from if_pos w1]; exact w4
          · obtain ⟨i, hi⟩ : ∃ i, x = E0.length + i := ⟨x - E0.length, by omega⟩
            subst hi
            rw [List.length_append] at hx
            have hs := (i1 i (by omega)).2.2
            rw [show ((E0.length : Int) + (i : Int)) = ((E0.length + i : Nat) : Int) by omega] at hs
            have er : ∀ i', rpN E0 (pL P) rp (E0.length + i') = E0.length + fv (pL P) i' := fun i' => by
              unfold rpN
              rw [if_neg (by omega), show E0.length + i' - E0.length = i' by omega]
            have ed : ∀ i', dpN E0 (pL P) dp (E0.length + i') = if fv (pL P) i' = i' then 0 else 1 := fun i' => by
              unfold dpN
              rw [if_neg (by omega), show E0.length + i' - E0.length = i' by omega]
            rw [hs, er, ed]
            by_cases w : fv (pL P) i = i
            · rw [if_pos w, if_pos w]
              exact Or.inl ⟨rfl, by rw [w], rfl⟩
            · rw [if_neg w, if_neg w]
              have hle := fv_le (L := pL P) (j := i) (by omega)
              have hff := fv_fv (L := pL P) (j := i) (by omega)
              refine Or.inr ⟨E0.length + fv (pL P) i, by rw [List.length_append]; omega, rfl, ?_, ?_⟩
              · rw [er, hff]
              · rw [ed, if_pos hff]
        · rw [i3, i6]
          obtain ⟨t1, t2, t3, t4⟩ := hTc
          refine ⟨t1, t2, t3, fun c hc => ⟨by rw [List.length_append]; have := (t4 c hc).1; omega, ?_⟩⟩
          rw [(i2 (c : Int) (by have := (t4 c hc).1; omega)).2.2]
          exact (t4 c hc).2
        · rw [i7 v (by omega), if_pos hv]
      · have hj : j < (pL P).length := by omega
        have hsy := psy j hj
        have hsj := hsz j hj
        have hok := PSh_ok hP _ (gD_mem hj)
        have u0 : te.1 0 < 2440 := by omega
        refine ⟨fun z2 => by omega, fun _ => ⟨fun z2 => by omega, fun _ => ⟨⟨by omega, by omega⟩, ?_⟩⟩⟩
        rw [hsy]
        -- the next cell
        have nx : ∀ (te2 : Ob) (st : Int), te2.1 = te.1 → te2.2.1 0 = updI (te.2.1 0) (te.1 0) (cs NL ((pL P).getD j (0, 0))) → te2.2.1 1 = updI (te.2.1 1) (te.1 0) (tsz (pL P) j : Int) → te2.2.1 2 = te.2.1 2 → te2.2.1 3 = te.2.1 3 → te2.2.1 4 = te.2.1 4 → (st = if fv (pL P) j = j then -1 else ((E0.length + fv (pL P) j : Nat) : Int)) → (∀ v : Nat, v < 8 → te2.2.1 6 (v : Int) = if v < (vN ((pL P).take (j + 1))).length then ((E0.length + fiL (pL P) ((vN ((pL P).take (j + 1))).getD v 0) : Nat) : Int) else -1) → Ter_copy_r_115 (fun x3 x4 x5 te' => Ter_copy_r_27 n x3 x4 x5 rc te' K) (E0.length : Int) (((psL A).length : Int) + ((pL P).length : Int)) (((psL A).length : Int) + (j : Int)) st (te.1 0) rc te2 K := fun te2 st g0 g1 g2 g3 g4 g5 hst hv => by
          have q0 : te2.1 0 = te.1 0 := by rw [g0]
          refine ⟨⟨by omega, by omega⟩, ⟨by omega, by omega⟩, ⟨by omega, by omega⟩, ?_⟩
          rw [show ((psL A).length : Int) + (j : Int) + 1 = ((psL A).length : Int) + ((j + 1 : Nat) : Int) by omega]
          refine ih (j + 1) _ (by omega) (by omega) ⟨?_, fun i hi => ?_, fun y hy => ?_, ?_, ?_, ?_, ?_, hv⟩
          · show te2.1 0 + 1 = _; omega
          · show te2.2.1 0 _ = _ ∧ te2.2.1 1 _ = _ ∧ updI (te2.2.1 2) (te.1 0) st _ = _
            rw [g1, g2, g3]
            unfold updI
            by_cases e : i = j
            · subst e
              rw [if_pos (by omega), if_pos (by omega), if_pos (by omega)]
              exact ⟨rfl, rfl, hst⟩
            · rw [if_neg (by omega), if_neg (by omega), if_neg (by omega)]
              exact i1 i (by omega)
          · show te2.2.1 0 _ = _ ∧ te2.2.1 1 _ = _ ∧ updI (te2.2.1 2) (te.1 0) st _ = _
            rw [g1, g2, g3]
            unfold updI
            rw [if_neg (by omega), if_neg (by omega), if_neg (by omega)]
            exact i2 y hy
          · show te2.1 1 = _; rw [g0]; exact i3
          · show te2.1 3 = _; rw [g0]; exact i4
          · show te2.2.1 3 = _; rw [g4]; exact i5
          · show te2.2.1 4 = _; rw [g5]; exact i6
        have esn : vN ((pL P).take (j + 1)) = vnS (vN ((pL P).take j)) ((pL P).getD j (0, 0)) := by rw [take_succ hj, vN_snoc]
        -- a cell that begins on its own
        have own : ¬ ((pL P).getD j (0, 0)).1 = -1 ∨ ((pL P).getD j (0, 0)).2 = 95 → fv (pL P) j = j ∧ vN ((pL P).take (j + 1)) = vN ((pL P).take j) := fun q => by
          refine ⟨if_neg (fun w => ?_), ?_⟩
          · rcases q with q | q
            · exact q w.1
            · exact w.2 q
          · rw [esn]
            refine if_neg (fun w => ?_)
            rcases q with q | q
            · exact q w.1
            · exact w.2.1 q
        have size : ∀ (s0 x6 : Int), s0 = cs NL ((pL P).getD j (0, 0)) → ((-2) < x6 → ¬ ((pL P).getD j (0, 0)).1 = -1 ∨ ((pL P).getD j (0, 0)).2 = 95) → (¬ (-2) < x6 → ((pL P).getD j (0, 0)).1 = -1 ∧ ((pL P).getD j (0, 0)).2 ≠ 95 ∧ (-2) - x6 = (idx (vN (pL P)) ((pL P).getD j (0, 0)).2 : Int)) → Ter_copy_r_71 (fun x3 x4 x5 te' => Ter_copy_r_27 n x3 x4 x5 rc te' K) (E0.length : Int) (((psL A).length : Int) + ((pL P).length : Int)) (((psL A).length : Int) + (j : Int)) x6 s0 (te.1 0) rc te K := fun s0 x6 hs0 hx1 hx2 => by
          refine ⟨⟨by omega, by omega⟩, fun w => by omega, fun _ => ⟨fun w => by omega, fun _ => ⟨⟨by omega, by omega⟩, ?_⟩⟩⟩
          rw [hsj, hs0]
          refine ⟨⟨by omega, by omega⟩, fun w => ?_, fun w => ?_⟩
          · obtain ⟨o1, o2⟩ := own (hx1 w)
            refine nx _ (-1) rfl rfl rfl rfl rfl rfl (by rw [if_pos o1]) (fun v hv => ?_)
            rw [o2]; exact i7 v hv
          · obtain ⟨c1, c2, c3⟩ := hx2 w
            have hmem := mem_vN (gD_mem hj) c1 c2
            have hil := (idx_lt hmem).1
            have hvi := vN_idx hj c1 c2
            have hfle := fiL_le (L := pL P) hj c1 rfl
            have hfv : fv (pL P) j = fiL (pL P) ((pL P).getD j (0, 0)).2 := if_pos ⟨c1, c2⟩
            rw [c3]
            refine ⟨⟨by omega, by omega⟩, fun _ => ⟨⟨by omega, by omega⟩, fun hne => ?_, fun heq => ⟨⟨by omega, by omega⟩, ?_⟩⟩, fun z => by omega⟩
            · -- a later cell of the variable
              have hne : ¬ te.2.1 6 (idx (vN (pL P)) ((pL P).getD j (0, 0)).2 : Int) = -1 := hne
              have e7 := i7 (idx (vN (pL P)) ((pL P).getD j (0, 0)).2) (by omega)
              have hlt : fiL (pL P) ((pL P).getD j (0, 0)).2 < j := by
                by_cases w2 : fiL (pL P) ((pL P).getD j (0, 0)).2 = j
                · have := (hvi.2 w2).1
                  rw [if_neg (by omega)] at e7
                  exact absurd e7 hne
                · omega
              obtain ⟨v1, v2⟩ := hvi.1 hlt
              rw [if_pos v1] at e7
              have hg2 : (vN ((pL P).take j)).getD (idx (vN (pL P)) ((pL P).getD j (0, 0)).2) 0 = ((pL P).getD j (0, 0)).2 := by
                obtain ⟨t, ht⟩ := vN_ext ((pL P).take j) ((pL P).drop j)
                rw [List.take_append_drop] at ht
                have := (idx_lt hmem).2
                rw [ht, List.getD_eq_getElem?_getD, List.getElem?_append_left (by rw [← ht]; exact v1), ← List.getD_eq_getElem?_getD, ← ht] at this
                exact this
              rw [hg2] at e7
              show Ter_copy_r_115 _ _ _ _ (te.2.1 6 (idx (vN (pL P)) ((pL P).getD j (0, 0)).2 : Int)) _ _ _ _
              rw [e7]
              refine nx _ _ rfl rfl rfl rfl rfl rfl (by rw [hfv, if_neg (by omega)]) (fun v hv => ?_)
              rw [v2]; exact i7 v hv
            · -- its first cell
              have heq : te.2.1 6 (idx (vN (pL P)) ((pL P).getD j (0, 0)).2 : Int) = -1 := heq
              have e7 := i7 (idx (vN (pL P)) ((pL P).getD j (0, 0)).2) (by omega)
              have hw2 : fiL (pL P) ((pL P).getD j (0, 0)).2 = j := by
                by_cases w2 : fiL (pL P) ((pL P).getD j (0, 0)).2 = j
                · exact w2
                · have := (hvi.1 (by omega)).1
                  rw [if_pos this] at e7
                  omega
              obtain ⟨v1, v2⟩ := hvi.2 hw2
              show Ter_copy_r_115 _ _ _ _ (te.2.1 6 (idx (vN (pL P)) ((pL P).getD j (0, 0)).2 : Int)) _ _ _ _
              rw [heq]
              refine nx _ (-1) rfl rfl rfl rfl rfl rfl (by rw [hfv, hw2, if_pos rfl]) (fun v hv => ?_)
              show (if (v : Int) = (idx (vN (pL P)) ((pL P).getD j (0, 0)).2 : Int) then te.1 0 else te.2.1 6 (v : Int)) = _
              rw [v2, List.length_append, List.length_singleton]
              by_cases e : v = idx (vN (pL P)) ((pL P).getD j (0, 0)).2
              · rw [if_pos (by omega), if_pos (by omega)]
                have : (vN ((pL P).take j) ++ [((pL P).getD j (0, 0)).2]).getD v 0 = ((pL P).getD j (0, 0)).2 := by
                  rw [e, v1, List.getD_eq_getElem?_getD, List.getElem?_append_right (Nat.le_refl _), Nat.sub_self]; rfl
                rw [this, hw2]
                omega
              · rw [if_neg (by omega), i7 v hv]
                by_cases e2 : v < (vN ((pL P).take j)).length
                · rw [if_pos e2, if_pos (by omega), List.getD_eq_getElem?_getD, List.getD_eq_getElem?_getD, List.getElem?_append_left e2]
                · rw [if_neg e2, if_neg (by omega)]
        by_cases hvar : ((pL P).getD j (0, 0)).1 = -1
        · have ecs : cs NL ((pL P).getD j (0, 0)) = -1 := if_pos hvar
          by_cases h95 : ((pL P).getD j (0, 0)).2 = 95
          · have esC : sC NL (vN (pL P)) ((pL P).getD j (0, 0)) = -1 := by unfold sC; rw [if_pos hvar, if_pos h95]
            rw [esC]
            exact ⟨fun z => absurd z (by decide), fun _ => size (-1) (-1) ecs.symm (fun _ => Or.inr h95) (fun z => absurd (by decide) z)⟩
          · have esC : sC NL (vN (pL P)) ((pL P).getD j (0, 0)) = -2 - (idx (vN (pL P)) ((pL P).getD j (0, 0)).2 : Int) := by unfold sC; rw [if_pos hvar, if_neg h95]
            rw [esC]
            exact ⟨fun z => by omega, fun _ => size (-1) _ ecs.symm (fun z => by omega) (fun z => ⟨hvar, h95, by omega⟩)⟩
        · have ecs : cs NL ((pL P).getD j (0, 0)) = sC NL [] ((pL P).getD j (0, 0)) := if_neg hvar
          have esC : sC NL (vN (pL P)) ((pL P).getD j (0, 0)) = sC NL [] ((pL P).getD j (0, 0)) := sC_nv hvar
          have hnn := cs_nn (NL := NL) hok hvar
          rw [esC]
          exact ⟨fun _ => size _ _ ecs.symm (fun _ => Or.inl hvar) (fun z => by omega), fun z => absurd hnn z⟩
  have hI0 : CpI NL E0 (pL P) te0 te1 0 := by
    refine ⟨by rw [f1]; have := hC.1; omega, fun i hi => absurd hi (Nat.not_lt_zero _), fun y _ => by rw [f2 0 (by decide), f2 1 (by decide), f2 2 (by decide)]; exact ⟨rfl, rfl, rfl⟩, by rw [f1], by rw [f1], f2 3 (by decide), f2 4 (by decide), fun v hv => ?_⟩
    rw [f3 v hv]
    have hz : ¬ v < (vN ((pL P).take 0)).length := Nat.not_lt_zero _
    rw [if_neg hz]
  have fin : ∃ n27, Ter_copy_r_27 n27 (te1.1 0) (((psL A).length : Int) + ((pL P).length : Int)) ((psL A).length : Int) rc te1 K := by
    refine ⟨(pL P).length + 1, ?_⟩
    have := loop ((pL P).length + 1) 0 te1 (Nat.zero_le _) (by omega) hI0
    rw [show ((psL A).length : Int) + ((0 : Nat) : Int) = ((psL A).length : Int) by omega] at this
    rw [hI0.1, show (E0.length : Int) + ((0 : Nat) : Int) = (E0.length : Int) by omega]
    exact this
  refine ⟨fun z => by omega, fun _ => ⟨fun _ => ⟨⟨by omega, by omega⟩, ?_⟩, fun z => by omega⟩⟩
  rw [pe]
  have hPA : PtAll NL A rc := fun A' q C' h' => hPt A' q (C' ++ P :: C) (by rw [hCs, h', List.append_assoc]; rfl)
  refine ⟨fun z2 => ?_, fun z2 => ⟨fun _ => ⟨⟨by omega, by omega⟩, ⟨by omega, by omega⟩, ?_⟩, fun z3 => by omega⟩⟩
  · have : A = [] := by
      cases A with
      | nil => rfl
      | cons a A => rw [List.length_cons] at z2; omega
    subst this
    exact fin
  · rw [start_of hPA (by omega)]
    exact fin
