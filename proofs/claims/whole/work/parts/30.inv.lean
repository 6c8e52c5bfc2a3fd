/-! the pure part: a text's symbols, and how the class holds them -/
def idx : List Nat → Nat → Nat
  | [], _ => 0
  | a :: l, w => if a = w then 0 else idx l w + 1
theorem idx_first : ∀ {l : List Nat} {w j : Nat}, firstAt l w j → idx l w = j
  | [], w, j, h => absurd h.1 (Nat.not_lt_zero _)
  | a :: l, w, 0, h => if_pos h.2.1
  | a :: l, w, j + 1, h => by
    have h0 : a ≠ w := h.2.2 0 (by omega)
    have h1 : firstAt l w j := ⟨Nat.lt_of_succ_lt_succ h.1, h.2.1, fun i hi => h.2.2 (i + 1) (by omega)⟩
    show (if a = w then 0 else idx l w + 1) = j + 1
    rw [if_neg h0, idx_first h1]
theorem idx_app : ∀ {l : List Nat} {w : Nat} (t : List Nat), w ∈ l → idx (l ++ t) w = idx l w
  | [], w, t, h => absurd h (List.not_mem_nil)
  | a :: l, w, t, h => by
    show (if a = w then 0 else idx (l ++ t) w + 1) = (if a = w then 0 else idx l w + 1)
    by_cases e : a = w
    · rw [if_pos e, if_pos e]
    · rw [if_neg e, if_neg e, idx_app t ((List.mem_cons.mp h).resolve_left (fun z => e z.symm))]
theorem idx_new : ∀ {l : List Nat} {w : Nat}, w ∉ l → idx (l ++ [w]) w = l.length
  | [], w, _ => if_pos rfl
  | a :: l, w, h => by
    show (if a = w then 0 else idx (l ++ [w]) w + 1) = l.length + 1
    rw [if_neg (fun e => h (by rw [e]; exact List.mem_cons_self)), idx_new (fun z => h (List.mem_cons_of_mem _ z))]
theorem idx_lt : ∀ {l : List Nat} {w : Nat}, w ∈ l → idx l w < l.length ∧ l.getD (idx l w) 0 = w
  | [], w, h => absurd h (List.not_mem_nil)
  | a :: l, w, h => by
    by_cases e : a = w
    · have : idx (a :: l) w = 0 := if_pos e
      rw [this]
      exact ⟨Nat.succ_pos _, e⟩
    · have : idx (a :: l) w = idx l w + 1 := if_neg e
      have ih := idx_lt ((List.mem_cons.mp h).resolve_left (fun z => e z.symm))
      rw [this]
      exact ⟨Nat.succ_lt_succ ih.1, ih.2⟩
theorem idx_inj {l : List Nat} {w v : Nat} (hw : w ∈ l) (hv : v ∈ l) (h : idx l w = idx l v) : w = v := by
  rw [← (idx_lt hw).2, ← (idx_lt hv).2, h]
theorem notIn_mem {l : List Nat} {w : Nat} (h : notIn l w) : w ∉ l := fun z => h _ (idx_lt z).1 (idx_lt z).2
theorem getD_mem {l : List Nat} {j : Nat} (h : j < l.length) : l.getD j 0 ∈ l := by
  rw [List.getD_eq_getElem?_getD, List.getElem?_eq_getElem h]
  exact List.getElem_mem h
theorem first_mem {l : List Nat} {w j : Nat} (h : firstAt l w j) : w ∈ l := by
  rw [← h.2.1]; exact getD_mem h.1
/-- the names of a text behind those that are kept -/
def nmS (l : List Nat) (x : Sy) : List Nat := if 0 ≤ x.1 ∧ x.2 ≠ 1 ∧ x.2 ≠ 2 ∧ x.2 ∉ l then l ++ [x.2] else l
def nmL (ks : List Nat) (E : List Sy) : List Nat := E.foldl nmS ks
/-- the named variables, in their order -/
def vnS (l : List Nat) (x : Sy) : List Nat := if x.1 = -1 ∧ x.2 ≠ 95 ∧ x.2 ∉ l then l ++ [x.2] else l
def vN (L : List Sy) : List Nat := L.foldl vnS []
def loS (c : Nat) (x : Sy) : Nat := if x.1 = -1 ∧ x.2 = 95 then c + 1 else c
def lone (L : List Sy) : Nat := L.foldl loS 0
/-- all variables, each _ alone for itself -/
def vmS (l : List Nat) (x : Sy) : List Nat := if x.1 = -1 ∧ (x.2 = 95 ∨ x.2 ∉ l) then l ++ [x.2] else l
def vM (L : List Sy) : List Nat := L.foldl vmS []
theorem nmL_snoc (ks : List Nat) (E : List Sy) (x : Sy) : nmL ks (E ++ [x]) = nmS (nmL ks E) x := by unfold nmL; rw [List.foldl_append]; rfl
theorem vN_snoc (E : List Sy) (x : Sy) : vN (E ++ [x]) = vnS (vN E) x := by unfold vN; rw [List.foldl_append]; rfl
theorem lone_snoc (E : List Sy) (x : Sy) : lone (E ++ [x]) = loS (lone E) x := by unfold lone; rw [List.foldl_append]; rfl
theorem vM_snoc (E : List Sy) (x : Sy) : vM (E ++ [x]) = vmS (vM E) x := by unfold vM; rw [List.foldl_append]; rfl
theorem nmL_set (ks : List Nat) (E S : List Sy) (w a : Nat) : nmL ks (E ++ ((a : Int), w) :: S) = nmL ks (E ++ (0, w) :: S) := by
  unfold nmL
  rw [List.foldl_append, List.foldl_append, List.foldl_cons, List.foldl_cons]
  congr 1
  unfold nmS
  simp
theorem vN_set (E S : List Sy) (w a : Nat) : vN (E ++ ((a : Int), w) :: S) = vN (E ++ (0, w) :: S) := by
  unfold vN
  rw [List.foldl_append, List.foldl_append, List.foldl_cons, List.foldl_cons]
  congr 1
theorem lone_set (E S : List Sy) (w a : Nat) : lone (E ++ ((a : Int), w) :: S) = lone (E ++ (0, w) :: S) := by
  unfold lone
  rw [List.foldl_append, List.foldl_append, List.foldl_cons, List.foldl_cons]
  congr 1
theorem vM_set (E S : List Sy) (w a : Nat) : vM (E ++ ((a : Int), w) :: S) = vM (E ++ (0, w) :: S) := by
  unfold vM
  rw [List.foldl_append, List.foldl_append, List.foldl_cons, List.foldl_cons]
  congr 1
theorem nmS_ext (l : List Nat) (x : Sy) : ∃ t, nmS l x = l ++ t := by
  unfold nmS
  split
  · exact ⟨_, rfl⟩
  · exact ⟨[], by simp⟩
theorem nmL_ext (ks : List Nat) (E : List Sy) : ∃ t, nmL ks E = ks ++ t := by
  induction E generalizing ks with
  | nil => exact ⟨[], by simp [nmL]⟩
  | cons x E ih =>
    obtain ⟨t, ht⟩ := nmS_ext ks x
    obtain ⟨u, hu⟩ := ih (nmS ks x)
    exact ⟨t ++ u, by show nmL (nmS ks x) E = _; rw [hu, ht, List.append_assoc]⟩
theorem nmL_app (ks : List Nat) (E F : List Sy) : nmL ks (E ++ F) = nmL (nmL ks E) F := by unfold nmL; rw [List.foldl_append]
theorem mem_nmL (ks : List Nat) : ∀ (E : List Sy) (x : Sy), x ∈ E → 0 ≤ x.1 → x.2 ≠ 1 → x.2 ≠ 2 → x.2 ∈ nmL ks E := by
  intro E
  induction E generalizing ks with
  | nil => intro x h; exact absurd h (List.not_mem_nil)
  | cons y E ih =>
    intro x h h0 h1 h2
    rcases List.mem_cons.mp h with rfl | h
    · obtain ⟨t, ht⟩ := nmL_ext (nmS ks x) E
      show x.2 ∈ nmL (nmS ks x) E
      rw [ht]
      refine List.mem_append_left _ ?_
      unfold nmS
      by_cases hm : x.2 ∈ ks
      · rw [if_neg (fun z => z.2.2.2 hm)]; exact hm
      · rw [if_pos ⟨h0, h1, h2, hm⟩]; simp
    · exact ih (nmS ks y) x h h0 h1 h2
theorem vnS_ext (l : List Nat) (x : Sy) : ∃ t, vnS l x = l ++ t := by
  unfold vnS
  split
  · exact ⟨_, rfl⟩
  · exact ⟨[], by simp⟩
theorem vn_ext (l : List Nat) (E : List Sy) : ∃ t, E.foldl vnS l = l ++ t := by
  induction E generalizing l with
  | nil => exact ⟨[], by simp⟩
  | cons x E ih =>
    obtain ⟨t, ht⟩ := vnS_ext l x
    obtain ⟨u, hu⟩ := ih (vnS l x)
    exact ⟨t ++ u, by show E.foldl vnS (vnS l x) = _; rw [hu, ht, List.append_assoc]⟩
theorem mem_vn (l : List Nat) : ∀ (E : List Sy) (x : Sy), x ∈ E → x.1 = -1 → x.2 ≠ 95 → x.2 ∈ E.foldl vnS l := by
  intro E
  induction E generalizing l with
  | nil => intro x h; exact absurd h (List.not_mem_nil)
  | cons y E ih =>
    intro x h h0 h1
    rcases List.mem_cons.mp h with rfl | h
    · obtain ⟨t, ht⟩ := vn_ext (vnS l x) E
      show x.2 ∈ E.foldl vnS (vnS l x)
      rw [ht]
      refine List.mem_append_left _ ?_
      unfold vnS
      by_cases hm : x.2 ∈ l
      · rw [if_neg (fun z => z.2.2 hm)]; exact hm
      · rw [if_pos ⟨h0, h1, hm⟩]; simp
    · exact ih (vnS l y) x h h0 h1
theorem mem_vN {L : List Sy} {x : Sy} (h : x ∈ L) (h0 : x.1 = -1) (h1 : x.2 ≠ 95) : x.2 ∈ vN L := mem_vn [] L x h h0 h1
/-- all variables are the named ones and the lone ones -/
theorem vM_vN : ∀ (E : List Sy) (l l' : List Nat) (c : Nat), l'.length = l.length + c → (∀ w, w ≠ 95 → (w ∈ l ↔ w ∈ l')) → (95 ∉ l) → (E.foldl vmS l').length = (E.foldl vnS l).length + (E.foldl loS c) ∧ (∀ w, w ≠ 95 → (w ∈ E.foldl vnS l ↔ w ∈ E.foldl vmS l')) := by
  intro E
  induction E with
  | nil => intro l l' c h1 h2 h3; exact ⟨h1, h2⟩
  | cons x E ih =>
    intro l l' c h1 h2 h3
    show (E.foldl vmS (vmS l' x)).length = (E.foldl vnS (vnS l x)).length + (E.foldl loS (loS c x)) ∧ (∀ w, w ≠ 95 → (w ∈ E.foldl vnS (vnS l x) ↔ w ∈ E.foldl vmS (vmS l' x)))
    by_cases hx : x.1 = -1
    · by_cases h95 : x.2 = 95
      · have e1 : vmS l' x = l' ++ [x.2] := if_pos ⟨hx, Or.inl h95⟩
        have e2 : vnS l x = l := if_neg (fun z => z.2.1 h95)
        have e3 : loS c x = c + 1 := if_pos ⟨hx, h95⟩
        rw [e1, e2, e3]
        refine ih l (l' ++ [x.2]) (c + 1) (by rw [List.length_append, List.length_singleton]; omega) (fun w hw => ?_) h3
        rw [h2 w hw, List.mem_append, List.mem_singleton]
        exact ⟨Or.inl, fun z => z.resolve_right (fun q => hw (q.trans h95))⟩
      · have e3 : loS c x = c := if_neg (fun z => h95 z.2)
        by_cases hm : x.2 ∈ l
        · have e1 : vmS l' x = l' := if_neg (fun z => by rcases z.2 with q | q; exact h95 q; exact q ((h2 _ h95).mp hm))
          have e2 : vnS l x = l := if_neg (fun z => z.2.2 hm)
          rw [e1, e2, e3]
          exact ih l l' c h1 h2 h3
        · have e1 : vmS l' x = l' ++ [x.2] := if_pos ⟨hx, Or.inr (fun q => hm ((h2 _ h95).mpr q))⟩
          have e2 : vnS l x = l ++ [x.2] := if_pos ⟨hx, h95, hm⟩
          rw [e1, e2, e3]
          refine ih _ _ c (by rw [List.length_append, List.length_append]; omega) (fun w hw => ?_) (fun z => ?_)
          · rw [List.mem_append, List.mem_append, h2 w hw]
          · rcases List.mem_append.mp z with q | q
            · exact h3 q
            · exact h95 (List.mem_singleton.mp q).symm
    · have e1 : vmS l' x = l' := if_neg (fun z => hx z.1)
      have e2 : vnS l x = l := if_neg (fun z => hx z.1)
      have e3 : loS c x = c := if_neg (fun z => hx z.1)
      rw [e1, e2, e3]
      exact ih l l' c h1 h2 h3
theorem vM_len (L : List Sy) : (vM L).length = (vN L).length + lone L := (vM_vN L [] [] 0 rfl (fun _ _ => Iff.rfl) (List.not_mem_nil)).1
theorem lone_le (L : List Sy) : lone L ≤ L.length := by
  unfold lone
  have : ∀ (E : List Sy) (c : Nat), E.foldl loS c ≤ c + E.length := by
    intro E
    induction E with
    | nil => intro c; exact Nat.le_refl _
    | cons x E ih =>
      intro c
      show E.foldl loS (loS c x) ≤ c + (E.length + 1)
      have h1 := ih (loS c x)
      have h2 : loS c x ≤ c + 1 := by unfold loS; split <;> omega
      omega
  have := this L 0
  omega
/-- the class's symbol -/
def sC (NL VL : List Nat) (x : Sy) : Int := if x.1 = -1 then (if x.2 = 95 then -1 else -2 - (idx VL x.2 : Int)) else if x.1 = -2 then 16 else if x.2 = 1 then 10 else if x.2 = 2 then 0 else (3 + (idx NL x.2 : Int)) * 8 + x.1
theorem sC_mono {NL VL : List Nat} {x : Sy} (t u : List Nat) (h1 : x.1 = -1 → x.2 ≠ 95 → x.2 ∈ VL) (h2 : 0 ≤ x.1 → x.2 ≠ 1 → x.2 ≠ 2 → x.2 ∈ NL) (h3 : -2 ≤ x.1) : sC (NL ++ t) (VL ++ u) x = sC NL VL x := by
  unfold sC
  by_cases a : x.1 = -1
  · rw [if_pos a, if_pos a]
    by_cases b : x.2 = 95
    · rw [if_pos b, if_pos b]
    · rw [if_neg b, if_neg b, idx_app u (h1 a b)]
  · rw [if_neg a, if_neg a]
    by_cases b : x.1 = -2
    · rw [if_pos b, if_pos b]
    · rw [if_neg b, if_neg b]
      by_cases c : x.2 = 1
      · rw [if_pos c, if_pos c]
      · rw [if_neg c, if_neg c]
        by_cases d : x.2 = 2
        · rw [if_pos d, if_pos d]
        · rw [if_neg d, if_neg d, idx_app t (h2 (by omega) c d)]
theorem gD_app_l {L M : List Sy} {j : Nat} (h : j < L.length) : (L ++ M).getD j (0, 0) = L.getD j (0, 0) := by
  rw [List.getD_eq_getElem?_getD, List.getD_eq_getElem?_getD, List.getElem?_append_left h]
theorem gD_app_r (L M : List Sy) (j : Nat) : (L ++ M).getD (L.length + j) (0, 0) = M.getD j (0, 0) := by
  rw [List.getD_eq_getElem?_getD, List.getD_eq_getElem?_getD, List.getElem?_append_right (by omega)]
  congr 2
  omega
theorem gD_mem {L : List Sy} {j : Nat} (h : j < L.length) : L.getD j (0, 0) ∈ L := by
  rw [List.getD_eq_getElem?_getD, List.getElem?_eq_getElem h]
  exact List.getElem_mem h
