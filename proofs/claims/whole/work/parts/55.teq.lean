/-! the search: terms that are equal under the reference's bindings -/
def Te (E : List Sy) (s g : Nat → Nat) : Nat → Nat → Nat → Prop
  | 0, _, _ => True
  | n + 1, x, y => (isV E (g x) ∧ isV E (g y) ∧ s (g x) = s (g y)) ∨ (¬ isV E (g x) ∧ ¬ isV E (g y) ∧ en E (g x) = en E (g y) ∧ ∀ k, k < nA E (g x) → Te E s g n (ch E (g x) k) (ch E (g y) k))
def TE (E : List Sy) (s g : Nat → Nat) : Nat → Nat → Prop := fun x y => ∀ n, Te E s g n x y
section TEQ
variable {E : List Sy} {s g : Nat → Nat}
theorem Te_refl : ∀ (n x : Nat), Te E s g n x x
  | 0, _ => trivial
  | n + 1, x => by
    by_cases h : isV E (g x)
    · exact Or.inl ⟨h, h, rfl⟩
    · exact Or.inr ⟨h, h, rfl, fun k _ => Te_refl n _⟩
theorem Te_symm : ∀ {n x y : Nat}, Te E s g n x y → Te E s g n y x
  | 0, _, _, _ => trivial
  | n + 1, x, y, h => by
    rcases h with ⟨h1, h2, h3⟩ | ⟨h1, h2, h3, h4⟩
    · exact Or.inl ⟨h2, h1, h3.symm⟩
    · refine Or.inr ⟨h2, h1, h3.symm, fun k hk => Te_symm (h4 k ?_)⟩
      unfold nA at hk ⊢
      rw [h3]; exact hk
theorem Te_trans : ∀ {n x y z : Nat}, Te E s g n x y → Te E s g n y z → Te E s g n x z
  | 0, _, _, _, _, _ => trivial
  | n + 1, x, y, z, h, k => by
    rcases h with ⟨h1, h2, h3⟩ | ⟨h1, h2, h3, h4⟩ <;> rcases k with ⟨k1, k2, k3⟩ | ⟨k1, k2, k3, k4⟩
    · exact Or.inl ⟨h1, k2, h3.trans k3⟩
    · exact absurd h2 k1
    · exact absurd k1 h2
    · refine Or.inr ⟨h1, k2, h3.trans k3, fun j hj => Te_trans (h4 j hj) (k4 j ?_)⟩
      unfold nA at hj ⊢
      rw [← h3]; exact hj
theorem TE_eqv : Eqv (TE E s g) := ⟨fun x n => Te_refl n x, fun _ _ h n => Te_symm (h n), fun _ _ _ h k n => Te_trans (h n) (k n)⟩
/-- what stands for the same cell is equal -/
theorem TE_of {x y : Nat} (h : g x = g y) : TE E s g x y := by
  intro n
  cases n with
  | zero => trivial
  | succ n =>
    by_cases hv : isV E (g x)
    · exact Or.inl ⟨hv, by rw [← h]; exact hv, by rw [h]⟩
    · exact Or.inr ⟨hv, by rw [← h]; exact hv, by rw [h], fun k _ => by rw [← h]; exact Te_refl n _⟩
theorem TE_var {x y : Nat} (h1 : isV E (g x)) (h2 : isV E (g y)) (h3 : s (g x) = s (g y)) : TE E s g x y := by
  intro n
  cases n with
  | zero => trivial
  | succ n => exact Or.inl ⟨h1, h2, h3⟩
theorem TE_nm {x y : Nat} (h1 : ¬ isV E (g x)) (h2 : ¬ isV E (g y)) (h3 : en E (g x) = en E (g y)) (h4 : ∀ k, k < nA E (g x) → TE E s g (ch E (g x) k) (ch E (g y) k)) : TE E s g x y := by
  intro n
  cases n with
  | zero => trivial
  | succ n => exact Or.inr ⟨h1, h2, h3, fun k hk => h4 k hk n⟩
theorem TE_clo (hnv : ∀ x, ¬ isV E x → g x = x) : Clo E (TE E s g) := by
  intro x y hx hy h vx vy
  have ex := hnv x vx
  have ey := hnv y vy
  rcases h 1 with ⟨h1, -⟩ | ⟨-, -, h3, -⟩
  · rw [ex] at h1; exact absurd h1 vx
  · rw [ex, ey] at h3
    refine ⟨h3, fun k hk n => ?_⟩
    rcases h (n + 1) with ⟨h1, -⟩ | ⟨-, -, -, h4⟩
    · rw [ex] at h1; exact absurd h1 vx
    · rw [ex, ey] at h4
      exact h4 k hk
/-- equal terms are equally deep -/
theorem TE_Dp : ∀ {d x y : Nat}, Te E s g d x y → Dp E g d x → Dp E g d y
  | 0, _, _, _, h => h
  | d + 1, x, y, ht, h => by
    intro k hk
    rcases ht with ⟨-, h2, -⟩ | ⟨-, -, h3, h4⟩
    · rw [isV_nA h2] at hk; omega
    · have hk' : k < nA E (g x) := by unfold nA at hk ⊢; rw [h3]; exact hk
      exact TE_Dp (h4 k hk') (h k hk')
theorem TE_acy (hW : WE E) (hg : ∀ x, x < E.length → g x < E.length ∧ g (g x) = g x) (hnv : ∀ x, ¬ isV E x → g x = x) {D : Nat} (hD : ∀ x, x < E.length → Dp E g D x) : Acy E (TE E s g) := by
  -- the least depth
  have least : ∀ x, x < E.length → ∃ d, Dp E g d x ∧ ∀ e, e < d → ¬ Dp E g e x := by
    intro x hx
    have : ∀ n, Dp E g n x → ∃ d, Dp E g d x ∧ ∀ e, e < d → ¬ Dp E g e x := by
      intro n
      induction n with
      | zero => intro h; exact absurd h id
      | succ n ih =>
        intro h
        by_cases q : Dp E g n x
        · exact ih q
        · refine ⟨n + 1, h, fun e he hd => q ?_⟩
          obtain ⟨j, hj⟩ : ∃ j, n = e + j := ⟨n - e, by omega⟩
          rw [hj]
          exact Dp_le hd j
    exact this D (hD x hx)
  refine ⟨fun x => if h : x < E.length then Classical.choose (least x h) else 0, fun x y hx hy h => ?_, fun x hx k hk => ?_⟩
  · show (if h : x < E.length then Classical.choose (least x h) else 0) = (if h : y < E.length then Classical.choose (least y h) else 0)
    rw [dif_pos hx, dif_pos hy]
    have px := Classical.choose_spec (least x hx)
    have py := Classical.choose_spec (least y hy)
    have h1 : ¬ Classical.choose (least x hx) < Classical.choose (least y hy) := fun z => py.2 _ z (TE_Dp (h _) px.1)
    have h2 : ¬ Classical.choose (least y hy) < Classical.choose (least x hx) := fun z => px.2 _ z (TE_Dp (Te_symm (h _)) py.1)
    omega
  · have hl := ch_lt hW hx hk
    show (if h : ch E x k < E.length then Classical.choose (least _ h) else 0) < (if h : x < E.length then Classical.choose (least x h) else 0)
    rw [dif_pos hl, dif_pos hx]
    have px := Classical.choose_spec (least x hx)
    have pc := Classical.choose_spec (least (ch E x k) hl)
    have vx : ¬ isV E x := fun z => by rw [isV_nA z] at hk; omega
    have ex := hnv x vx
    have : ∀ d, Dp E g d x → ∃ e, e < d ∧ Dp E g e (ch E x k) := fun d hd => by
      cases d with
      | zero => exact absurd hd id
      | succ d =>
        have := hd k (by rw [ex]; exact hk)
        rw [ex] at this
        exact ⟨d, Nat.lt_succ_self _, this⟩
    obtain ⟨e, he, hde⟩ := this _ px.1
    have : ¬ e < Classical.choose (least (ch E x k) hl) := fun z => pc.2 _ z hde
    omega
end TEQ
section BND
variable {E : List Sy} {s : Nat → Nat} {BL : List (Nat × Nat)} {v y : Nat}
theorem fo_cons_nv {x : Nat} (h : ¬ isV E (fo E s BL x)) : fo E s ((v, y) :: BL) x = fo E s BL x := if_neg (fun z => h z.1)
theorem fo_cons_ne {x : Nat} (h : ¬ (isV E (fo E s BL x) ∧ s (fo E s BL x) = v)) : fo E s ((v, y) :: BL) x = fo E s BL x := if_neg h
theorem fo_cons_eq {x : Nat} (h : isV E (fo E s BL x) ∧ s (fo E s BL x) = v) : fo E s ((v, y) :: BL) x = y := if_pos h
/-- bindings that are added don't part what is equal -/
theorem TE_ext : ∀ {n x z : Nat}, (∀ k, Te E s (fo E s BL) k x z) → Te E s (fo E s ((v, y) :: BL)) n x z
  | 0, _, _, _ => trivial
  | n + 1, x, z, h => by
    rcases h 1 with ⟨h1, h2, h3⟩ | ⟨h1, h2, h3, -⟩
    · by_cases q : s (fo E s BL x) = v
      · have e1 : fo E s ((v, y) :: BL) x = y := fo_cons_eq ⟨h1, q⟩
        have e2 : fo E s ((v, y) :: BL) z = y := fo_cons_eq ⟨h2, by rw [← h3]; exact q⟩
        exact TE_of (e1.trans e2.symm) (n + 1)
      · have e1 : fo E s ((v, y) :: BL) x = fo E s BL x := fo_cons_ne (fun w => q w.2)
        have e2 : fo E s ((v, y) :: BL) z = fo E s BL z := fo_cons_ne (fun w => q (by rw [h3]; exact w.2))
        refine Or.inl ⟨?_, ?_, ?_⟩
        · rw [e1]; exact h1
        · rw [e2]; exact h2
        · rw [e1, e2]; exact h3
    · have e1 : fo E s ((v, y) :: BL) x = fo E s BL x := fo_cons_nv h1
      have e2 : fo E s ((v, y) :: BL) z = fo E s BL z := fo_cons_nv h2
      refine Or.inr ⟨?_, ?_, ?_, fun k hk => ?_⟩
      · rw [e1]; exact h1
      · rw [e2]; exact h2
      · rw [e1, e2]; exact h3
      · rw [e1] at hk ⊢
        rw [e2]
        refine TE_ext (fun j => ?_)
        rcases h (j + 1) with ⟨w, -⟩ | ⟨-, -, -, w⟩
        · exact absurd w h1
        · exact w k hk
theorem TE_exts {x z : Nat} : ∀ {N : List (Nat × Nat)}, TE E s (fo E s BL) x z → TE E s (fo E s (N ++ BL)) x z
  | [], h => h
  | q :: N, h => fun n => TE_ext (v := q.1) (y := q.2) (TE_exts (N := N) h)
/-- a binding leaves terms finite -/
theorem fin_bind (hB : BOk E s BL) (hy : y < E.length) (hyy : fo E s BL y = y) (hne : ¬ (isV E y ∧ s y = v)) {D : Nat} (hD : ∀ x, x < E.length → Dp E (fo E s BL) D x) (hno : ¬ Oc E (fo E s BL) s v (y, D)) (hW : WE E) : ∃ D', ∀ x, x < E.length → Dp E (fo E s ((v, y) :: BL)) D' x := by
  have hg := fun z (hz : z < E.length) => (fo_fin (s := s) hz hB).1
  have gy : fo E s ((v, y) :: BL) y = y := by
    have := fo_cons_ne (E := E) (s := s) (BL := BL) (v := v) (y := y) (x := y) (by rw [hyy]; exact hne)
    rw [this, hyy]
  have l1 : ∀ (d z : Nat), ¬ Oc E (fo E s BL) s v (z, d) → Dp E (fo E s BL) d z → Dp E (fo E s ((v, y) :: BL)) d z := by
    intro d
    induction d with
    | zero => intro z _ h; exact absurd h id
    | succ d ih =>
      intro z ho h
      have e : fo E s ((v, y) :: BL) z = fo E s BL z := fo_cons_ne (fun w => ho (Oc_succ.mpr (Or.inl w)))
      intro k hk
      rw [e] at hk ⊢
      exact ih _ (fun w => ho (Oc_succ.mpr (Or.inr ⟨k, hk, w⟩))) (h k hk)
  have hDy := l1 D y hno (hD y hy)
  have l2 : ∀ (d z : Nat), z < E.length → Dp E (fo E s BL) d z → Dp E (fo E s ((v, y) :: BL)) (d + D) z := by
    intro d
    induction d with
    | zero => intro z _ h; exact absurd h id
    | succ d ih =>
      intro z hz h
      by_cases q : isV E (fo E s BL z) ∧ s (fo E s BL z) = v
      · have e : fo E s ((v, y) :: BL) z = y := fo_cons_eq q
        have := Dp_g (z := z) (by rw [gy, e]) hDy
        have := Dp_le this (d + 1)
        rw [show D + (d + 1) = d + 1 + D by omega] at this
        exact this
      · have e : fo E s ((v, y) :: BL) z = fo E s BL z := fo_cons_ne q
        rw [show d + 1 + D = (d + D) + 1 by omega]
        intro k hk
        rw [e] at hk ⊢
        exact ih _ (ch_lt hW (hg z hz) hk) (h k hk)
  exact ⟨D + D, fun x hx => l2 D x hx (hD x hx)⟩
theorem Dsc_ext {x : Nat} : ∀ {n c : Nat}, Dsc E (fo E s BL) n c x → Dsc E (fo E s ((v, y) :: BL)) n c x
  | 0, _, h => h
  | n + 1, c, h => by
    obtain ⟨k, hk, h⟩ := h
    refine ⟨k, hk, ?_⟩
    rcases h with h | h
    · exact Or.inl h
    · refine Or.inr ?_
      have hnv : ¬ isV E (fo E s BL (ch E c k)) := fun z => by
        cases n with
        | zero => exact absurd h id
        | succ n =>
          obtain ⟨j, hj, -⟩ := h
          rw [isV_nA z] at hj
          omega
      rw [fo_cons_nv hnv]
      exact Dsc_ext h
theorem CB_ext {F : List Nat} : ∀ {l : List Nat}, CB E (fo E s BL) F l → CB E (fo E s ((v, y) :: BL)) F l
  | [], _ => trivial
  | x :: l, h => by
    obtain ⟨⟨cs, h1, h2, h3⟩, h4⟩ := h
    refine ⟨⟨cs, h1, fun c hc => ?_, h3⟩, CB_ext h4⟩
    obtain ⟨w1, w2, w3, n, w4⟩ := h2 c hc
    refine ⟨w1, w2, ?_, n, Dsc_ext w4⟩
    have hnv : ¬ isV E c := fun z => by
      cases n with
      | zero => exact absurd w4 id
      | succ n =>
        obtain ⟨j, hj, -⟩ := w4
        rw [isV_nA z] at hj
        omega
    exact fo_nv hnv _
theorem FCl_ext {F : List Nat} (h : FCl E (fo E s BL) F) (hy : y ∈ F) : FCl E (fo E s ((v, y) :: BL)) F := fun c hc => by
  obtain ⟨h1, h2, h3⟩ := h c hc
  have key : ∀ z, fo E s BL z ∈ F → fo E s ((v, y) :: BL) z ∈ F := fun z hz => by
    by_cases q : isV E (fo E s BL z) ∧ s (fo E s BL z) = v
    · rw [fo_cons_eq q]; exact hy
    · rw [fo_cons_ne q]; exact hz
  exact ⟨h1, key c h2, fun k hk => key _ (h3 k hk)⟩
end BND
/-- the pairs of arguments, in the reference's order -/
def pq (E : List Sy) (a b : Nat) : Nat → List (Nat × Nat) → List (Nat × Nat)
  | 0, ps => ps
  | k + 1, ps => (ch E a k, ch E b k) :: pq E a b k ps
theorem pq_len (E : List Sy) (a b : Nat) : ∀ (k : Nat) (ps : List (Nat × Nat)), (pq E a b k ps).length = ps.length + k
  | 0, ps => rfl
  | k + 1, ps => by
    show (pq E a b k ps).length + 1 = _
    rw [pq_len E a b k ps]; omega
theorem pq_mem {E : List Sy} {a b : Nat} {q : Nat × Nat} : ∀ {k : Nat} {ps : List (Nat × Nat)}, q ∈ pq E a b k ps ↔ q ∈ ps ∨ ∃ j, j < k ∧ q = (ch E a j, ch E b j)
  | 0, ps => ⟨Or.inl, fun h => h.resolve_right (fun z => by obtain ⟨j, hj, -⟩ := z; omega)⟩
  | k + 1, ps => by
    show q ∈ (ch E a k, ch E b k) :: pq E a b k ps ↔ _
    rw [List.mem_cons, pq_mem (k := k)]
    constructor
    · rintro (h | h | ⟨j, hj, h⟩)
      · exact Or.inr ⟨k, by omega, h⟩
      · exact Or.inl h
      · exact Or.inr ⟨j, by omega, h⟩
    · rintro (h | ⟨j, hj, h⟩)
      · exact Or.inr (Or.inl h)
      · by_cases e : j = k
        · subst e; exact Or.inl h
        · exact Or.inr (Or.inr ⟨j, by omega, h⟩)
theorem CB_pq {E : List Sy} {g : Nat → Nat} {F : List Nat} {x d b : Nat} {ps : List (Nat × Nat)} (hW : WE E) (hg : ∀ y, y < E.length → g y < E.length ∧ g (g y) = g y) (h : CB E g F (x :: ps.map Prod.fst)) (hx : x < E.length) (hF : g x ∈ F) (hD : Dp E g d x) (n4 : nA E (g x) ≤ 4) : ∀ k, k ≤ nA E (g x) → CB E g F ((pq E (g x) b k ps).map Prod.fst)
  | 0, _ => h.2
  | k + 1, hk => by
    refine ⟨?_, CB_pq hW hg h hx hF hD n4 k (by omega)⟩
    obtain ⟨⟨cs, h1, h2, h3⟩, -⟩ := h
    have hno : g x ∉ cs := fun z => by
      obtain ⟨-, w1, w2, n, w3⟩ := h2 _ z
      exact Dsc_no hW hg w1 w2 w3 rfl (d + 1) d (Nat.lt_succ_self _) (Dp_g w2.symm hD)
    refine ⟨g x :: cs, List.nodup_cons.mpr ⟨hno, h1⟩, fun c hc => ?_, ?_⟩
    · rcases List.mem_cons.mp hc with e | e
      · subst e
        exact ⟨hF, (hg x hx).1, (hg x hx).2, 1, k, by omega, Or.inl rfl⟩
      · obtain ⟨w1, w2, w3, n, w4⟩ := h2 c e
        exact ⟨w1, w2, w3, n + 1, Dsc_app (k := k) (by omega) rfl w4⟩
    · show ((pq E (g x) b k ps).map Prod.fst).length ≤ 3 * (g x :: cs).length
      rw [List.length_map, pq_len, List.length_cons]
      rw [List.length_map] at h3
      omega
theorem pq_sum (E : List Sy) (g : Nat → Nat) (x b d : Nat) : ∀ (k : Nat) (ps : List (Nat × Nat)), ((pq E (g x) b k ps).map (fun q => (TL E g d q.1).length)).sum = ((List.range k).map (fun j => (TL E g d (ch E (g x) j)).length)).sum + (ps.map (fun q => (TL E g d q.1).length)).sum
  | 0, ps => by simp [pq]
  | k + 1, ps => by
    show (((ch E (g x) k, ch E b k) :: pq E (g x) b k ps).map (fun q => (TL E g d q.1).length)).sum = _
    rw [List.map_cons, List.sum_cons, pq_sum E g x b d k ps, List.range_succ, List.map_append, List.sum_append, List.map_singleton, List.sum_singleton]
    show (TL E g d (ch E (g x) k)).length + (_ + _) = _
    omega
