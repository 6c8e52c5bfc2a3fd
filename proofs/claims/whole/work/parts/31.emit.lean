/-! the pure part: the class's state while a part is read -/
def ICn (NL0 : List Nat) (E : List Sy) (NL : List Nat) (nm : Ob) : Prop := nm.1 0 = (NL0.length : Int) ∧ (nm.1 2 = 0 ∨ nm.1 2 = 1) ∧ nmOk nm NL ∧ (∃ t, NL = NL0 ++ t) ∧ (nm.1 2 = 0 → NL = nmL NL0 E) ∧ (nm.1 2 = 1 → 32 < (nmL NL0 E).length)
def ICc (P L : List Sy) (symF szF endsF : Int → Int) (pc : Int) (rc : Ob) : Prop := rc.1 0 = min ((P ++ L).length : Int) 240 ∧ rc.1 1 = pc ∧ rc.2.1 1 = szF ∧ rc.2.1 2 = endsF ∧ (∀ j, 0 ≤ j → j < (P.length : Int) → rc.2.1 0 j = symF j) ∧ (∀ j : Nat, j < L.length → P.length + j < 240 → (L.getD j (0, 0)).1 = 0 → 0 ≤ rc.2.1 0 ((P.length + j : Nat) : Int) ∧ rc.2.1 0 ((P.length + j : Nat) : Int) ≤ 300)
def ICr (L : List Sy) (VL : List Nat) (g : Int) (rd : Ob) : Prop := rd.1 2 = g ∧ (rd.1 5 = 0 ∨ rd.1 5 = 1) ∧ 0 ≤ rd.1 1 ∧ rd.1 1 ≤ (L.length : Int) ∧ vrOk rd VL
def ICo (ov : Prop) (L : List Sy) (rd : Ob) : Prop := rd.1 5 = 1 → ov ∨ 8 < (vM L).length ∨ ∃ x ∈ L, 4 < x.1
def ICx (P L : List Sy) (NL VL : List Nat) (nm rc rd : Ob) : Prop := rd.1 5 = 0 → VL = vN L ∧ rd.1 1 = (lone L : Int) ∧ VL.length + lone L ≤ 8 ∧ (∀ x ∈ L, x.1 ≤ 4) ∧ (nm.1 2 = 0 → ∀ j : Nat, j < L.length → P.length + j < 240 → rc.2.1 0 ((P.length + j : Nat) : Int) = sC NL VL (L.getD j (0, 0)))
def IC (NL0 : List Nat) (P : List Sy) (symF szF endsF : Int → Int) (pc g : Int) (ov q5 qn : Prop) (E : List Sy) (nm rc rd : Ob) : Prop := ∃ (L : List Sy) (NL VL : List Nat), E = P ++ L ∧ ICn NL0 E NL nm ∧ ICc P L symF szF endsF pc rc ∧ ICr L VL g rd ∧ ICo ov L rd ∧ ICx P L NL VL nm rc rd ∧ (∀ x ∈ L, -2 ≤ x.1) ∧ (rd.1 5 = 0 → q5) ∧ (nm.1 2 = 0 → qn)
def PosC (P : List Sy) (E : List Sy) (w : Nat) (r : Int) : Prop := w ≠ 1 ∧ w ≠ 2 ∧ r = (E.length : Int) ∧ (E.length : Int) < 240 ∧ P.length ≤ E.length
theorem sp_add_r {E : List Sy} {s : Int} {rc : Ob} {K : Int → Ob → Prop} (h : rc.1 0 = min (E.length : Int) 240) (h1 : (E.length : Int) < 240 → K (E.length : Int) (sI (sA rc 0 (E.length : Int) s) 0 ((E.length : Int) + 1))) (h2 : 240 ≤ (E.length : Int) → K 239 rc) : wp_Cod_add_r s rc K := by
  refine ⟨fun a => ⟨⟨by omega, by omega⟩, ?_⟩, fun a => ?_⟩
  · have : rc.1 0 - 1 = 239 := by omega
    rw [this]
    exact h2 (by omega)
  · have e : rc.1 0 = (E.length : Int) := by omega
    rw [e]
    refine ⟨⟨by omega, by omega⟩, ⟨by omega, by omega⟩, ⟨?_, ?_⟩, ?_⟩
    · show (-2147483648 : Int) ≤ (E.length : Int) + 1 - 1; omega
    · show (E.length : Int) + 1 - 1 ≤ 2147483647; omega
    · show K ((E.length : Int) + 1 - 1) _
      rw [show (E.length : Int) + 1 - 1 = (E.length : Int) by omega]
      exact h1 (by omega)
theorem ICc_add {P L : List Sy} {symF szF endsF : Int → Int} {pc : Int} {rc : Ob} (h : ICc P L symF szF endsF pc rc) (x : Sy) (s : Int) (hs : x.1 = 0 → 0 ≤ s ∧ s ≤ 300) (hl : ((P ++ L).length : Int) < 240) : ICc P (L ++ [x]) symF szF endsF pc (sI (sA rc 0 ((P ++ L).length : Int) s) 0 (((P ++ L).length : Int) + 1)) := by
  obtain ⟨a1, a2, a3, a4, a5, a6⟩ := h
  rw [List.length_append] at hl a1 ⊢
  refine ⟨?_, a2, a3, a4, fun j j0 j1 => ?_, fun j j1 j2 j3 => ?_⟩
  · show ((P.length + L.length : Nat) : Int) + 1 = _
    rw [List.length_append, List.length_append, List.length_singleton]
    omega
  · show updI (rc.2.1 0) _ _ j = _
    rw [updI_n (by omega)]
    exact a5 j j0 j1
  · show 0 ≤ updI (rc.2.1 0) _ _ _ ∧ updI (rc.2.1 0) _ _ _ ≤ 300
    rw [List.length_append, List.length_singleton] at j1
    by_cases e : j = L.length
    · subst e
      rw [updI_s]
      have := gD_app_r L [x] 0
      rw [Nat.add_zero] at this
      rw [this] at j3
      exact hs j3
    · rw [updI_n (by omega)]
      rw [gD_app_l (by omega)] at j3
      exact a6 j (by omega) j2 j3
theorem ICc_full {P L : List Sy} {symF szF endsF : Int → Int} {pc : Int} {rc : Ob} (h : ICc P L symF szF endsF pc rc) (x : Sy) (hl : 240 ≤ ((P ++ L).length : Int)) : ICc P (L ++ [x]) symF szF endsF pc rc := by
  obtain ⟨a1, a2, a3, a4, a5, a6⟩ := h
  rw [List.length_append] at hl a1
  refine ⟨?_, a2, a3, a4, a5, fun j j1 j2 j3 => ?_⟩
  · rw [List.length_append, List.length_append, List.length_singleton]; omega
  · rw [List.length_append, List.length_singleton] at j1
    rw [gD_app_l (by omega)] at j3
    exact a6 j (by omega) j2 j3
section EMIT
variable {NL0 : List Nat} {P : List Sy} {symF szF endsF : Int → Int} {pc g : Int} {ov q5 qn : Prop}
/-- a symbol put behind the others -/
theorem IC_put {L : List Sy} {NL VL t u : List Nat} {nm rc rd nm' rd' : Ob} {x : Sy} {s : Int} {Q : Int → Ob → Prop} (hn : ICn NL0 (P ++ L) NL nm) (hc : ICc P L symF szF endsF pc rc) (hx : ICx P L NL VL nm rc rd) (h2 : ∀ y ∈ L, -2 ≤ y.1) (h5 : rd.1 5 = 0 → q5) (h6 : nm.1 2 = 0 → qn) (h7 : nm'.1 2 = 0 → nm.1 2 = 0)
    (hn' : ICn NL0 (P ++ L ++ [x]) (NL ++ t) nm') (hr' : ICr (L ++ [x]) (VL ++ u) g rd') (ho' : ICo ov (L ++ [x]) rd') (hs : x.1 = 0 → 0 ≤ s ∧ s ≤ 300) (hx2 : -2 ≤ x.1)
    (hx' : rd'.1 5 = 0 → rd.1 5 = 0 ∧ VL ++ u = vN (L ++ [x]) ∧ rd'.1 1 = (lone (L ++ [x]) : Int) ∧ (VL ++ u).length + lone (L ++ [x]) ≤ 8 ∧ x.1 ≤ 4 ∧ (nm'.1 2 = 0 → nm.1 2 = 0 ∧ s = sC (NL ++ t) (VL ++ u) x))
    (hQ : ∀ r rc', IC NL0 P symF szF endsF pc g ov q5 qn (P ++ L ++ [x]) nm' rc' rd' → (((P ++ L).length : Int) < 240 → r = ((P ++ L).length : Int) ∧ ((P ++ L).length : Int) < 240 ∧ P.length ≤ (P ++ L).length) → Q r rc') : wp_Cod_add_r s rc Q := by
  have old : rd'.1 5 = 0 → nm'.1 2 = 0 → ∀ (rc' : Ob) (j : Nat), j < L.length → P.length + j < 240 → rc'.2.1 0 ((P.length + j : Nat) : Int) = rc.2.1 0 ((P.length + j : Nat) : Int) → rc'.2.1 0 ((P.length + j : Nat) : Int) = sC (NL ++ t) (VL ++ u) ((L ++ [x]).getD j (0, 0)) := fun hz hm rc' j j1 j2 e => by
    have q := hx' hz
    obtain ⟨b1, b2, b3, b4, b5⟩ := hx q.1
    have hm0 := (q.2.2.2.2.2 hm).1
    rw [e, b5 hm0 j j1 j2, gD_app_l j1]
    refine (sC_mono t u (fun z1 z2 => ?_) (fun z1 z2 z3 => ?_) (h2 _ (gD_mem j1))).symm
    · rw [b1]; exact mem_vN (gD_mem j1) z1 z2
    · rw [hn.2.2.2.2.1 hm0]
      exact mem_nmL _ _ _ (List.mem_append_right _ (gD_mem j1)) z1 z2 z3
  have m2 : ∀ y ∈ L ++ [x], -2 ≤ y.1 := fun y hy => by
    rcases List.mem_append.mp hy with q | q
    · exact h2 y q
    · rw [List.mem_singleton.mp q]; exact hx2
  have x4 : rd'.1 5 = 0 → ∀ y ∈ L ++ [x], y.1 ≤ 4 := fun hz y hy => by
    rcases List.mem_append.mp hy with q | q
    · exact (hx (hx' hz).1).2.2.2.1 y q
    · rw [List.mem_singleton.mp q]; exact (hx' hz).2.2.2.2.1
  refine sp_add_r (E := P ++ L) hc.1 (fun hl => hQ _ _ ⟨L ++ [x], NL ++ t, VL ++ u, List.append_assoc _ _ _, hn', ICc_add hc x s hs hl, hr', ho', fun hz => ⟨(hx' hz).2.1, (hx' hz).2.2.1, (hx' hz).2.2.2.1, x4 hz, fun hm j j1 j2 => ?_⟩, m2, fun z => h5 (hx' z).1, fun z => h6 (h7 z)⟩ (fun _ => ⟨rfl, hl, by rw [List.length_append]; omega⟩)) (fun hl => hQ _ _ ⟨L ++ [x], NL ++ t, VL ++ u, List.append_assoc _ _ _, hn', ICc_full hc x hl, hr', ho', fun hz => ⟨(hx' hz).2.1, (hx' hz).2.2.1, (hx' hz).2.2.2.1, x4 hz, fun hm j j1 j2 => ?_⟩, m2, fun z => h5 (hx' z).1, fun z => h6 (h7 z)⟩ (fun z => by omega))
  · rw [List.length_append, List.length_singleton] at j1
    by_cases e : j = L.length
    · subst e
      show updI (rc.2.1 0) ((P ++ L).length : Int) s ((P.length + L.length : Nat) : Int) = _
      rw [List.length_append, updI_s]
      have := gD_app_r L [x] 0
      rw [Nat.add_zero] at this
      rw [this]
      exact ((hx' hz).2.2.2.2.2 hm).2
    · refine old hz hm _ j (by omega) j2 ?_
      show updI (rc.2.1 0) ((P ++ L).length : Int) s ((P.length + j : Nat) : Int) = _
      rw [List.length_append, updI_n (by omega)]
  · rw [List.length_append] at hl
    rw [List.length_append, List.length_singleton] at j1
    exact old hz hm _ j (by omega) j2 rfl
theorem ICn_same {E : List Sy} {NL : List Nat} {nm : Ob} {x : Sy} (h : ICn NL0 E NL nm) (hx : x.1 < 0 ∨ x.2 = 1 ∨ x.2 = 2) : ICn NL0 (E ++ [x]) (NL ++ []) nm := by
  have e : nmL NL0 (E ++ [x]) = nmL NL0 E := by
    rw [nmL_snoc]
    refine if_neg (fun z => ?_)
    rcases hx with q | q | q
    · have := z.1; omega
    · exact z.2.1 q
    · exact z.2.2.1 q
  rw [List.append_nil]
  unfold ICn
  rw [e]
  exact h
theorem ICo_more {L : List Sy} {rd : Ob} {x : Sy} (h : ICo ov L rd) : ICo ov (L ++ [x]) rd := fun z => by
  rcases h z with q | q | ⟨y, hy, q⟩
  · exact Or.inl q
  · refine Or.inr (Or.inl ?_)
    rw [vM_snoc]
    unfold vmS
    split
    · rw [List.length_append]; omega
    · exact q
  · exact Or.inr (Or.inr ⟨y, List.mem_append_left _ hy, q⟩)
/-- a symbol that is neither a variable nor a name -/
theorem IC_plain {E : List Sy} {nm rc rd : Ob} {x : Sy} {s : Int} {Q : Int → Ob → Prop} (h : IC NL0 P symF szF endsF pc g ov q5 qn E nm rc rd) (hx : (x = (2, 1) ∧ s = 10) ∨ (x = (0, 2) ∧ s = 0) ∨ (x = (-2, 0) ∧ s = 16)) (hQ : ∀ r rc', IC NL0 P symF szF endsF pc g ov q5 qn (E ++ [x]) nm rc' rd → Q r rc') : wp_Cod_add_r s rc Q := by
  obtain ⟨L, NL, VL, rfl, hn, hc, hr, ho, hxx, h2, h5, h6⟩ := h
  have e1 : x.1 ≠ -1 := by rcases hx with ⟨rfl, -⟩ | ⟨rfl, -⟩ | ⟨rfl, -⟩ <;> decide
  have eN : vN (L ++ [x]) = vN L := by rw [vN_snoc]; exact if_neg (fun z => e1 z.1)
  have eL : lone (L ++ [x]) = lone L := by rw [lone_snoc]; exact if_neg (fun z => e1 z.1)
  refine IC_put (t := []) (u := []) (x := x) (rd' := rd) hn hc hxx h2 h5 h6 id (ICn_same hn ?_) ?_ (ICo_more ho) ?_ ?_ (fun hz => ?_) (fun r rc' hI _ => hQ r rc' hI)
  · rcases hx with ⟨rfl, -⟩ | ⟨rfl, -⟩ | ⟨rfl, -⟩
    · exact Or.inr (Or.inl rfl)
    · exact Or.inr (Or.inr rfl)
    · exact Or.inl (by decide)
  · obtain ⟨r1, r2, r3, r4, r5⟩ := hr
    rw [List.append_nil]
    refine ⟨r1, r2, r3, ?_, r5⟩
    rw [List.length_append, List.length_singleton]; omega
  · rcases hx with ⟨rfl, rfl⟩ | ⟨rfl, rfl⟩ | ⟨rfl, rfl⟩ <;> decide
  · rcases hx with ⟨rfl, rfl⟩ | ⟨rfl, rfl⟩ | ⟨rfl, rfl⟩ <;> decide
  · obtain ⟨b1, b2, b3, b4, b5⟩ := hxx hz
    rw [List.append_nil, List.append_nil, eN, eL]
    refine ⟨hz, b1, b2, b3, ?_, fun hm => ⟨hm, ?_⟩⟩
    · rcases hx with ⟨rfl, rfl⟩ | ⟨rfl, rfl⟩ | ⟨rfl, rfl⟩ <;> decide
    · rcases hx with ⟨rfl, rfl⟩ | ⟨rfl, rfl⟩ | ⟨rfl, rfl⟩ <;> rfl
theorem IC_rd {E : List Sy} {nm rc rd rd' : Ob} (h : IC NL0 P symF szF endsF pc g ov q5 qn E nm rc rd) (e : ∀ j, j ≠ 3 → j ≠ 4 → rd'.1 j = rd.1 j) (e2 : rd'.2 = rd.2) : IC NL0 P symF szF endsF pc g ov q5 qn E nm rc rd' := by
  obtain ⟨L, NL, VL, rfl, hn, hc, ⟨r1, r2, r3, r4, r5, r6, r7⟩, ho, hxx, h2, h5, h6⟩ := h
  have q0 := e 0 (by decide) (by decide)
  have q1 := e 1 (by decide) (by decide)
  have q2 := e 2 (by decide) (by decide)
  have q5' := e 5 (by decide) (by decide)
  refine ⟨L, NL, VL, rfl, hn, hc, ?_, ?_, ?_, h2, fun z => h5 (q5' ▸ z), h6⟩
  · unfold ICr vrOk
    rw [q0, q1, q2, q5', e2]
    exact ⟨r1, r2, r3, r4, r5, r6, r7⟩
  · unfold ICo; rw [q5']; exact ho
  · unfold ICx; rw [q5', q1]; exact hxx
end EMIT
