/-! the pure part: the reference's reader: what it emits -/
theorem vmS_ext (l : List Nat) (x : Sy) : ∃ t, vmS l x = l ++ t := by
  unfold vmS
  split
  · exact ⟨_, rfl⟩
  · exact ⟨[], by simp⟩
theorem vm_ext (l : List Nat) (E : List Sy) : ∃ t, E.foldl vmS l = l ++ t := by
  induction E generalizing l with
  | nil => exact ⟨[], by simp⟩
  | cons x E ih =>
    obtain ⟨t, ht⟩ := vmS_ext l x
    obtain ⟨u, hu⟩ := ih (vmS l x)
    exact ⟨t ++ u, by show E.foldl vmS (vmS l x) = _; rw [hu, ht, List.append_assoc]⟩
theorem vM_ext (L T : List Sy) : ∃ t, vM (L ++ T) = vM L ++ t := by
  unfold vM
  rw [List.foldl_append]
  exact vm_ext _ _
theorem mem_vM {L : List Sy} {x : Sy} (h : x ∈ L) (h0 : x.1 = -1) (h1 : x.2 ≠ 95) : x.2 ∈ vM L := ((vM_vN L [] [] 0 rfl (fun _ _ => Iff.rfl) (List.not_mem_nil)).2 x.2 h1).mp (mem_vN h h0 h1)
theorem vM_le (L : List Sy) : (vM L).length ≤ L.length := by
  have : ∀ (E : List Sy) (l : List Nat), (E.foldl vmS l).length ≤ l.length + E.length := by
    intro E
    induction E with
    | nil => intro l; exact Nat.le_refl _
    | cons x E ih =>
      intro l
      show (E.foldl vmS (vmS l x)).length ≤ l.length + (E.length + 1)
      have h1 := ih (vmS l x)
      have h2 : (vmS l x).length ≤ l.length + 1 := by
        unfold vmS
        split
        · rw [List.length_append, List.length_singleton]; omega
        · omega
      omega
  have := this L []
  unfold vM
  simpa using this
/-- a named variable stands but once -/
def uq95 (l : List Nat) : Prop := ∀ i j, i < l.length → j < l.length → l.getD i 0 = l.getD j 0 → l.getD i 0 ≠ 95 → i = j
theorem uq_snoc {l : List Nat} {w : Nat} (h : uq95 l) (hw : w = 95 ∨ w ∉ l) : uq95 (l ++ [w]) := by
  have el : ∀ i, i < l.length → (l ++ [w]).getD i 0 = l.getD i 0 := fun i hi => by
    rw [List.getD_eq_getElem?_getD, List.getD_eq_getElem?_getD, List.getElem?_append_left hi]
  have er : (l ++ [w]).getD l.length 0 = w := by
    rw [List.getD_eq_getElem?_getD, List.getElem?_append_right (Nat.le_refl _), Nat.sub_self]; rfl
  intro i j hi hj e n
  rw [List.length_append, List.length_singleton] at hi hj
  by_cases a : i < l.length <;> by_cases c : j < l.length
  · rw [el i a, el j c] at e
    rw [el i a] at n
    exact h i j a c e n
  · have : j = l.length := by omega
    subst this
    rw [el i a, er] at e
    rw [el i a] at n
    rcases hw with q | q
    · exact absurd (e.trans q) n
    · exact absurd (by rw [← e]; exact getD_mem a) q
  · have : i = l.length := by omega
    subst this
    rw [er, el j c] at e
    rw [er] at n
    rcases hw with q | q
    · exact absurd q n
    · exact absurd (by rw [e]; exact getD_mem c) q
  · omega
theorem uq_vM (L : List Sy) : uq95 (vM L) := by
  have : ∀ (E : List Sy) (l : List Nat), uq95 l → uq95 (E.foldl vmS l) := by
    intro E
    induction E with
    | nil => intro l h; exact h
    | cons x E ih =>
      intro l h
      refine ih _ ?_
      unfold vmS
      split
      · next z => exact uq_snoc h z.2
      · exact h
  exact this L [] (fun i j hi => absurd hi (Nat.not_lt_zero _))
/-- the reference's code of an entry -/
def cM (L : List Sy) (j : Nat) : Nat := if (L.getD j (0, 0)).1 = -1 then (if (L.getD j (0, 0)).2 = 95 then (vM (L.take j)).length else idx (vM L) (L.getD j (0, 0)).2) else (L.getD j (0, 0)).2
theorem cM_app {L T : List Sy} {j : Nat} (h : j < L.length) : cM (L ++ T) j = cM L j := by
  unfold cM
  rw [gD_app_l h, List.take_append_of_le_length (Nat.le_of_lt h)]
  by_cases a : (L.getD j (0, 0)).1 = -1
  · rw [if_pos a, if_pos a]
    by_cases c : (L.getD j (0, 0)).2 = 95
    · rw [if_pos c, if_pos c]
    · rw [if_neg c, if_neg c]
      obtain ⟨u, hu⟩ := vM_ext L T
      rw [hu, idx_app u (mem_vM (gD_mem h) a c)]
  · rw [if_neg a, if_neg a]
/-- what stands in a row but for the arguments -/
def skS (x : Sy) : Nat × Bool := (x.2, decide (x.1 = -1))
theorem vm_sk : ∀ (L M : List Sy) (l : List Nat), L.map skS = M.map skS → L.foldl vmS l = M.foldl vmS l
  | [], [], l, _ => rfl
  | [], y :: M, l, h => by simp at h
  | x :: L, [], l, h => by simp at h
  | x :: L, y :: M, l, h => by
    rw [List.map_cons, List.map_cons] at h
    injection h with h1 h2
    have e : vmS l x = vmS l y := by
      unfold skS at h1
      injection h1 with a c
      have c' : (x.1 = -1) ↔ (y.1 = -1) := by
        constructor
        · intro z; have := c.symm.trans (decide_eq_true z); exact of_decide_eq_true this
        · intro z; have := c.trans (decide_eq_true z); exact of_decide_eq_true this
      unfold vmS
      rw [a]
      by_cases z : x.1 = -1
      · have z2 := c'.mp z
        simp only [z, z2]
      · have z2 : ¬ y.1 = -1 := fun q => z (c'.mpr q)
        rw [if_neg (fun q => z q.1), if_neg (fun q => z2 q.1)]
    show L.foldl vmS (vmS l x) = M.foldl vmS (vmS l y)
    rw [e]
    exact vm_sk L M _ h2
theorem vM_sk {L M : List Sy} (h : L.map skS = M.map skS) : vM L = vM M := vm_sk L M [] h
theorem take_sk {L M : List Sy} (h : L.map skS = M.map skS) (p : Nat) : vM (L.take p) = vM (M.take p) := vM_sk (by rw [List.map_take, List.map_take, h])
theorem len_sk {L M : List Sy} (h : L.map skS = M.map skS) : L.length = M.length := by
  have := congrArg List.length h
  rwa [List.length_map, List.length_map] at this
theorem get_sk : ∀ {L M : List Sy}, L.map skS = M.map skS → ∀ j, (L.getD j (0, 0)).2 = (M.getD j (0, 0)).2 ∧ ((L.getD j (0, 0)).1 = -1 ↔ (M.getD j (0, 0)).1 = -1)
  | [], [], _, j => ⟨rfl, Iff.rfl⟩
  | [], y :: M, h, j => by simp at h
  | x :: L, [], h, j => by simp at h
  | x :: L, y :: M, h, j => by
    rw [List.map_cons, List.map_cons] at h
    injection h with h1 h2
    cases j with
    | zero =>
      unfold skS at h1
      injection h1 with a c
      refine ⟨a, fun z => ?_, fun z => ?_⟩
      · have := c.symm.trans (decide_eq_true z); exact of_decide_eq_true this
      · have := c.trans (decide_eq_true z); exact of_decide_eq_true this
    | succ j => exact get_sk h2 j
theorem cM_sk {L M : List Sy} (h : L.map skS = M.map skS) (j : Nat) : cM L j = cM M j := by
  unfold cM
  rw [take_sk h, vM_sk h, (get_sk h j).1]
  have := (get_sk h j).2
  by_cases a : (L.getD j (0, 0)).1 = -1
  · rw [if_pos a, if_pos (this.mp a)]
  · rw [if_neg a, if_neg (fun z => a (this.mpr z))]
theorem set_sk (E S : List Sy) (w : Nat) {a c : Int} (ha : a ≠ -1) (hc : c ≠ -1) : (E ++ (a, w) :: S).map skS = (E ++ (c, w) :: S).map skS := by
  rw [List.map_append, List.map_append, List.map_cons, List.map_cons]
  unfold skS
  rw [decide_eq_false ha, decide_eq_false hc]
def vAt (L : List Sy) (k p : Nat) : Prop := p < L.length ∧ (vM (L.take p)).length = k ∧ (vM (L.take (p + 1))).length = k + 1
/-- a piece's symbols in the reference's reader, from place b on -/
def MP (b : Int) (aF : Int → Int) (cF : Int → Nat) (L : List Sy) (m : Ob) : Prop := m.1 4 = b + (L.length : Int) ∧ (∀ j, 0 ≤ j → j < b → m.2.1 1 j = aF j ∧ m.2.2.2 0 j = cF j) ∧ (∀ j : Nat, j < L.length → m.2.1 1 (b + (j : Int)) = (L.getD j (0, 0)).1 ∧ m.2.2.2 0 (b + (j : Int)) = cM L j) ∧ m.1 7 = ((vM L).length : Int) ∧ arN (m.2.2.2 1) (vM L) ∧ (∀ k : Nat, k < (vM L).length → ∃ p : Nat, m.2.1 6 (k : Int) = b + (p : Int) ∧ vAt L k p) ∧ 0 ≤ b
theorem MP_eq {b : Int} {aF : Int → Int} {cF : Int → Nat} {L : List Sy} {m m' : Ob} (h : MP b aF cF L m) (e4 : m'.1 4 = m.1 4) (e7 : m'.1 7 = m.1 7) (a1 : m'.2.1 1 = m.2.1 1) (a6 : m'.2.1 6 = m.2.1 6) (l0 : m'.2.2.2 0 = m.2.2.2 0) (l1 : m'.2.2.2 1 = m.2.2.2 1) : MP b aF cF L m' := by
  unfold MP
  rw [e4, e7, a1, a6, l0, l1]
  exact h
def emf (m m' : Ob) : Prop := (∀ j, j ≠ 4 → j ≠ 7 → m'.1 j = m.1 j) ∧ (∀ j, j ≠ 1 → j ≠ 6 → m'.2.1 j = m.2.1 j) ∧ m'.2.2.1 = m.2.2.1 ∧ (∀ j, j ≠ 0 → j ≠ 1 → m'.2.2.2 j = m.2.2.2 j)
theorem vAt_app {L T : List Sy} {k p : Nat} (h : vAt L k p) : vAt (L ++ T) k p := by
  obtain ⟨h1, h2, h3⟩ := h
  refine ⟨by rw [List.length_append]; omega, ?_, ?_⟩
  · rw [List.take_append_of_le_length (Nat.le_of_lt h1)]; exact h2
  · rw [List.take_append_of_le_length h1]; exact h3
theorem vAt_sk {L M : List Sy} {k p : Nat} (h : L.map skS = M.map skS) (v : vAt L k p) : vAt M k p := by
  obtain ⟨h1, h2, h3⟩ := v
  exact ⟨by rw [← len_sk h]; exact h1, by rw [← take_sk h]; exact h2, by rw [← take_sk h]; exact h3⟩
/-- one more symbol -/
theorem MP_put {b : Int} {aF : Int → Int} {cF : Int → Nat} {L : List Sy} {x : Sy} {m m' : Ob} {c : Nat} (h : MP b aF cF L m) (hc : c = cM (L ++ [x]) L.length) (e4 : m'.1 4 = m.1 4 + 1) (a1 : m'.2.1 1 = updI (m.2.1 1) (m.1 4) x.1) (l0 : m'.2.2.2 0 = updN (m.2.2.2 0) (m.1 4) c) (h7 : m'.1 7 = ((vM (L ++ [x])).length : Int)) (hl1 : arN (m'.2.2.2 1) (vM (L ++ [x]))) (ha6 : ∀ k : Nat, k < (vM (L ++ [x])).length → ∃ p : Nat, m'.2.1 6 (k : Int) = b + (p : Int) ∧ vAt (L ++ [x]) k p) : MP b aF cF (L ++ [x]) m' := by
  obtain ⟨p1, p2, p3, p4, p5, p6, p7⟩ := h
  refine ⟨?_, fun j j0 jb => ?_, fun j hj => ?_, h7, hl1, ha6, p7⟩
  · rw [e4, p1, List.length_append, List.length_singleton]; omega
  · rw [a1, l0]
    unfold updI updN
    rw [if_neg (by omega), if_neg (by omega)]
    exact p2 j j0 jb
  · rw [a1, l0]
    unfold updI updN
    rw [List.length_append, List.length_singleton] at hj
    by_cases q : j < L.length
    · rw [if_neg (by omega), if_neg (by omega), gD_app_l q, cM_app q]
      exact p3 j q
    · have : j = L.length := by omega
      subst this
      have e : (L ++ [x]).getD L.length (0, 0) = x := gD_app_r L [x] 0
      rw [if_pos p1.symm, if_pos p1.symm, e]
      exact ⟨rfl, hc⟩
theorem vM_non {L : List Sy} {x : Sy} (h : x.1 ≠ -1) : vM (L ++ [x]) = vM L := by
  rw [vM_snoc]
  exact if_neg (fun z => h z.1)
theorem we_emit {b : Int} {aF : Int → Int} {cF : Int → Nat} {L : List Sy} {m : Ob} {w : Nat} {a : Int} {K : Ob → Prop} (h : MP b aF cF L m) (hl : b + (L.length : Int) < 500) (ha : a ≠ -1) (hK : ∀ m', MP b aF cF (L ++ [(a, w)]) m' → emf m m' → K m') : wp_M_emit w a m K := by
  have p1 := h.1
  have p7 := h.2.2.2.2.2.2
  refine ⟨⟨by omega, by omega⟩, ⟨by omega, by omega⟩, ⟨by omega, by omega⟩, hK _ ?_ ⟨fun j j4 _ => if_neg j4, fun j j1 _ => if_neg j1, rfl, fun j j0 _ => if_neg j0⟩⟩
  have ev : vM (L ++ [(a, w)]) = vM L := vM_non ha
  refine MP_put (c := w) h ?_ rfl rfl rfl ?_ ?_ ?_
  · unfold cM
    have e : (L ++ [(a, w)]).getD L.length (0, 0) = (a, w) := gD_app_r L [(a, w)] 0
    rw [e, if_neg ha]
  · rw [ev]; exact h.2.2.2.1
  · rw [ev]; exact h.2.2.2.2.1
  · rw [ev]
    intro k hk
    obtain ⟨p, q1, q2⟩ := h.2.2.2.2.2.1 k hk
    exact ⟨p, q1, vAt_app q2⟩
theorem take_len_app (L : List Sy) (x : Sy) : (L ++ [x]).take L.length = L := by
  rw [List.take_append_of_le_length (Nat.le_refl _), List.take_length]
theorem ev_loop {m : Ob} {K : Ob → Prop} {VL : List Nat} (h7 : m.1 7 = (VL.length : Int)) (hv : VL.length ≤ 242) (hl : arN (m.2.2.2 1) VL) {f : Int} (hf : f = -1 ∨ (0 ≤ f ∧ f < (VL.length : Int))) (hno : f = -1 → m.2.2.1 0 = 95 ∨ ∀ j, j < VL.length → VL.getD j 0 ≠ m.2.2.1 0) (hyes : 0 ≤ f → m.2.2.1 0 ≠ 95 ∧ ∀ j, j < VL.length → (VL.getD j 0 = m.2.2.1 0 ↔ (j : Int) = f)) (hK : M_emitVariable_49 f m K) :
    ∀ (n : Nat) (x1 : Int) (j : Nat), j ≤ VL.length → VL.length < n + j → (x1 = if f < (j : Int) then f else -1) → M_emitVariable_4 n x1 (j : Int) m K := by
  intro n
  induction n with
  | zero => intro x1 j h1 h2; omega
  | succ n ih =>
    intro x1 j h1 h2 hx
    refine ⟨fun z => ?_, fun z => ?_⟩
    · rw [h7] at z
      have : x1 = f := by
        rw [hx]
        split
        · rfl
        · omega
      rw [this]
      exact hK
    · rw [h7] at z
      have hj : j < VL.length := by omega
      have ev := hl j hj
      have nx : ∀ y : Int, (y = if f < ((j + 1 : Nat) : Int) then f else -1) → M_emitVariable_42 (fun x1 x2 m' => M_emitVariable_4 n x1 x2 m' K) (j : Int) y m K := fun y hy => by
        refine ⟨⟨by omega, by omega⟩, ?_⟩
        exact ih y (j + 1) (by omega) (by omega) hy
      refine ⟨fun q => nx x1 ?_, fun q => ⟨⟨by omega, by omega⟩, fun r => nx x1 ?_, fun r => nx (j : Int) ?_⟩⟩
      · rcases hf with e | e
        · subst e
          rw [hx]
          split <;> split <;> rfl
        · exact absurd q (hyes e.1).1
      · rw [ev] at r
        rcases hf with e | e
        · subst e
          rw [hx]
          split <;> split <;> rfl
        · have := (hyes e.1).2 j hj
          rw [hx]
          by_cases s : f < (j : Int)
          · rw [if_pos s, if_pos (by omega)]
          · rw [if_neg s, if_neg (fun y => r (this.mpr (by omega)))]
      · rw [ev] at r
        rcases hf with e | e
        · rcases hno e with z | z
          · exact absurd z q
          · exact absurd r (z j hj)
        · have := ((hyes e.1).2 j hj).mp r
          rw [if_pos (by omega)]
          exact this
theorem we_var {b : Int} {aF : Int → Int} {cF : Int → Nat} {L : List Sy} {m : Ob} {w : Nat} {K : Ob → Prop} (h : MP b aF cF L m) (hl : b + (L.length : Int) < 500) (hv : (vM L).length < 242) (hw : m.2.2.1 0 = w) (hK : ∀ m', MP b aF cF (L ++ [(-1, w)]) m' → emf m m' → K m') : wp_M_emitVariable m K := by
  have h0 := h
  obtain ⟨p1, p2, p3, p4, p5, p6, p7⟩ := h
  have e : (L ++ [((-1 : Int), w)]).getD L.length (0, 0) = (-1, w) := gD_app_r L [(-1, w)] 0
  by_cases hn : w = 95 ∨ w ∉ vM L
  · -- a new one
    refine ⟨(vM L).length + 1, ev_loop p4 (by omega) p5 (f := -1) (Or.inl rfl) (fun _ => ?_) (fun z => absurd z (by decide)) ?_ _ (-1) 0 (Nat.zero_le _) (by omega) (by split <;> rfl)⟩
    · rw [hw]
      rcases hn with q | q
      · exact Or.inl q
      · exact Or.inr (fun j hj z => q (by rw [← z]; exact getD_mem hj))
    · refine ⟨fun z => absurd z (by decide), fun _ => ⟨⟨by omega, by omega⟩, ⟨by omega, by omega⟩, ⟨by omega, by omega⟩, ?_⟩⟩
      have ev : vM (L ++ [(-1, w)]) = vM L ++ [w] := by
        rw [vM_snoc]
        exact if_pos ⟨rfl, hn⟩
      refine ⟨by omega, ?_⟩
      refine ⟨⟨by show 0 ≤ m.1 4; omega, by show m.1 4 < 500; omega⟩, ⟨by show 0 ≤ m.1 4; omega, by show m.1 4 < 500; omega⟩, ⟨by show _ ≤ m.1 4 + 1; omega, by show m.1 4 + 1 ≤ _; omega⟩, hK _ ?_ ⟨fun j j4 j7 => (if_neg j4).trans (if_neg j7), fun j j1 j6 => (if_neg j1).trans (if_neg j6), rfl, fun j j0 j1 => (if_neg j0).trans (if_neg j1)⟩⟩
      refine MP_put (c := (m.1 7).toNat) h0 ?_ rfl rfl rfl ?_ ?_ ?_
      · unfold cM
        rw [e, if_pos rfl]
        by_cases q : w = 95
        · rw [if_pos q, take_len_app, p4]
          exact Int.toNat_natCast _
        · rw [if_neg q, ev, idx_new (hn.resolve_left q), p4]
          exact Int.toNat_natCast _
      · rw [ev, List.length_append, List.length_singleton]
        show m.1 7 + 1 = _
        omega
      · intro i hi
        show updN (m.2.2.2 1) (m.1 7) (m.2.2.1 0) (i : Int) = _
        rw [ev] at hi ⊢
        rw [List.length_append, List.length_singleton] at hi
        unfold updN
        by_cases q : i < (vM L).length
        · rw [if_neg (by omega), List.getD_eq_getElem?_getD, List.getElem?_append_left q, ← List.getD_eq_getElem?_getD]
          exact p5 i q
        · have : i = (vM L).length := by omega
          subst this
          rw [if_pos p4.symm, hw, List.getD_eq_getElem?_getD, List.getElem?_append_right (Nat.le_refl _), Nat.sub_self]
          rfl
      · intro k hk
        show ∃ p : Nat, updI (m.2.1 6) (m.1 7) (m.1 4) (k : Int) = b + (p : Int) ∧ _
        rw [ev, List.length_append, List.length_singleton] at hk
        unfold updI
        by_cases q : k < (vM L).length
        · rw [if_neg (by omega)]
          obtain ⟨p, q1, q2⟩ := p6 k q
          exact ⟨p, q1, vAt_app q2⟩
        · have : k = (vM L).length := by omega
          subst this
          rw [if_pos p4.symm]
          refine ⟨L.length, p1, by rw [List.length_append, List.length_singleton]; omega, by rw [take_len_app], ?_⟩
          have : (L ++ [((-1 : Int), w)]).take (L.length + 1) = L ++ [(-1, w)] := List.take_of_length_le (by rw [List.length_append, List.length_singleton]; omega)
          rw [this, ev, List.length_append, List.length_singleton]
  · -- one that stands already
    have h95 : w ≠ 95 := fun z => hn (Or.inl z)
    have hm : w ∈ vM L := Classical.byContradiction (fun z => hn (Or.inr z))
    obtain ⟨i1, i2⟩ := idx_lt hm
    have ev : vM (L ++ [(-1, w)]) = vM L := by
      rw [vM_snoc]
      exact if_neg (fun z => by rcases z.2 with q | q; exact h95 q; exact q hm)
    refine ⟨(vM L).length + 1, ev_loop p4 (by omega) p5 (f := (idx (vM L) w : Int)) (Or.inr ⟨by omega, by omega⟩) (fun z => by omega) (fun _ => ⟨by rw [hw]; exact h95, fun j hj => ⟨fun z => ?_, fun z => ?_⟩⟩) ?_ _ (-1) 0 (Nat.zero_le _) (by omega) (by rw [if_neg (by omega)])⟩
    · rw [hw] at z
      have := uq_vM L j (idx (vM L) w) hj i1 (z.trans i2.symm) (by rw [z]; exact h95)
      omega
    · have : j = idx (vM L) w := by omega
      rw [this, i2, hw]
    · refine ⟨fun _ => ?_, fun z => absurd (by omega) z⟩
      refine ⟨by omega, ?_⟩
      refine ⟨⟨by omega, by omega⟩, ⟨by omega, by omega⟩, ⟨by omega, by omega⟩, hK _ ?_ ⟨fun j j4 _ => if_neg j4, fun j j1 _ => if_neg j1, rfl, fun j j0 _ => if_neg j0⟩⟩
      refine MP_put (c := ((idx (vM L) w : Nat) : Int).toNat) h0 ?_ rfl rfl rfl ?_ ?_ ?_
      · unfold cM
        rw [e, if_pos rfl, if_neg h95, ev]
        exact Int.toNat_natCast _
      · rw [ev]; exact p4
      · rw [ev]; exact p5
      · rw [ev]
        intro k hk
        obtain ⟨p, q1, q2⟩ := p6 k hk
        exact ⟨p, q1, vAt_app q2⟩
/-- a name gets its arguments -/
theorem MP_set {b : Int} {aF : Int → Int} {cF : Int → Nat} {E S : List Sy} {w : Nat} {a : Int} {m : Ob} (ha : 0 ≤ a) (h : MP b aF cF (E ++ (0, w) :: S) m) : MP b aF cF (E ++ (a, w) :: S) (sA m 1 (b + (E.length : Int)) a) := by
  have hs : (E ++ ((0 : Int), w) :: S).map skS = (E ++ (a, w) :: S).map skS := set_sk E S w (by decide) (by omega)
  have hl := len_sk hs
  obtain ⟨p1, p2, p3, p4, p5, p6, p7⟩ := h
  refine ⟨?_, fun j j0 jb => ?_, fun j hj => ?_, ?_, ?_, fun k hk => ?_, p7⟩
  · rw [← hl]; exact p1
  · show updI (m.2.1 1) _ a j = _ ∧ _
    unfold updI
    rw [if_neg (by omega)]
    exact p2 j j0 jb
  · show updI (m.2.1 1) _ a _ = _ ∧ _
    unfold updI
    rw [← hl] at hj
    rw [← cM_sk hs]
    by_cases q : j = E.length
    · subst q
      rw [if_pos rfl]
      exact ⟨(congrArg Prod.fst (gD_app_r E ((a, w) :: S) 0)).symm, (p3 _ hj).2⟩
    · rw [if_neg (by omega)]
      refine ⟨?_, (p3 j hj).2⟩
      rw [(p3 j hj).1]
      by_cases q2 : j < E.length
      · rw [gD_app_l q2, gD_app_l q2]
      · obtain ⟨i, hi⟩ : ∃ i, j = E.length + (i + 1) := ⟨j - E.length - 1, by omega⟩
        rw [hi, gD_app_r, gD_app_r]
        rfl
  · rw [← vM_sk hs]; exact p4
  · rw [← vM_sk hs]; exact p5
  · rw [← vM_sk hs] at hk
    obtain ⟨p, q1, q2⟩ := p6 k hk
    exact ⟨p, q1, vAt_sk hs q2⟩
