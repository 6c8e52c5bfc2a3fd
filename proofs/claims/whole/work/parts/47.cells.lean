/-! the search: cells, terms, relations between cells -/
/-- how many symbols the first n terms take -/
def sk : List Sy → Nat → Nat
  | [], _ => 0
  | _ :: _, 0 => 0
  | x :: T, n + 1 => 1 + sk T (n + x.1.toNat)
theorem sk_0 (T : List Sy) : sk T 0 = 0 := by cases T <;> rfl
theorem sk_add : ∀ (T : List Sy) (m n : Nat), sk T (m + n) = sk T m + sk (T.drop (sk T m)) n
  | [], m, n => by simp [sk]
  | x :: T, 0, n => by rw [sk_0, Nat.zero_add, Nat.zero_add]; rfl
  | x :: T, m + 1, n => by
    rw [show m + 1 + n = (m + n) + 1 by omega]
    show 1 + sk T (m + n + x.1.toNat) = 1 + sk T (m + x.1.toNat) + sk ((x :: T).drop (1 + sk T (m + x.1.toNat))) n
    rw [show m + n + x.1.toNat = (m + x.1.toNat) + n by omega, sk_add T (m + x.1.toNat) n, show 1 + sk T (m + x.1.toNat) = sk T (m + x.1.toNat) + 1 by omega, List.drop_succ_cons]
    omega
theorem sk_le : ∀ {T : List Sy} {b : Nat} (n : Nat), Fr T b → n ≤ b → sk T n ≤ T.length ∧ (n < b → sk T n < T.length)
  | [], b, n, h, hn => ⟨Nat.le_refl _, fun z => by have h : b = 0 := h; omega⟩
  | x :: T, b, 0, h, hn => ⟨Nat.zero_le _, fun _ => Nat.succ_pos _⟩
  | x :: T, b, n + 1, h, hn => by
    obtain ⟨b', h1, h2, h3⟩ := h
    have ih := sk_le (n + x.1.toNat) h1 (by omega)
    show 1 + sk T (n + x.1.toNat) ≤ T.length + 1 ∧ (n + 1 < b → 1 + sk T (n + x.1.toNat) < T.length + 1)
    refine ⟨by omega, fun z => ?_⟩
    have := ih.2 (by omega)
    omega
theorem sk_app : ∀ {T : List Sy} {b : Nat} (n : Nat) (U : List Sy), Fr T b → n ≤ b → sk (T ++ U) n = sk T n
  | [], b, n, U, h, hn => by
    have h : b = 0 := h
    have : n = 0 := by omega
    subst this
    rw [sk_0, sk_0]
  | x :: T, b, 0, U, h, hn => rfl
  | x :: T, b, n + 1, U, h, hn => by
    obtain ⟨b', h1, h2, h3⟩ := h
    show 1 + sk (T ++ U) (n + x.1.toNat) = 1 + sk T (n + x.1.toNat)
    rw [sk_app (n + x.1.toNat) U h1 (by omega)]
theorem Fr_drop : ∀ {T : List Sy} {b : Nat} (i : Nat), Fr T b → ∃ b', Fr (T.drop i) b'
  | T, b, 0, h => ⟨b, h⟩
  | [], b, i + 1, h => ⟨b, h⟩
  | x :: T, b, i + 1, h => by
    obtain ⟨b', h1, -⟩ := h
    exact Fr_drop i h1
def en (E : List Sy) (x : Nat) : Sy := E.getD x (0, 0)
def nA (E : List Sy) (x : Nat) : Nat := (en E x).1.toNat
def isV (E : List Sy) (x : Nat) : Prop := (en E x).1 = -1
/-- the size of the term in a cell -/
def tsz (E : List Sy) (x : Nat) : Nat := sk (E.drop x) 1
/-- its arguments -/
def ch (E : List Sy) (x k : Nat) : Nat := x + 1 + sk (E.drop (x + 1)) k
def WE (E : List Sy) : Prop := ∃ b, Fr E b
theorem drop_en {E : List Sy} {x : Nat} (h : x < E.length) : E.drop x = en E x :: E.drop (x + 1) := by
  rw [List.drop_eq_getElem_cons h]
  unfold en
  rw [List.getD_eq_getElem?_getD, List.getElem?_eq_getElem h]
  rfl
theorem WE_at {E : List Sy} {x : Nat} (hW : WE E) (h : x < E.length) : ∃ b, Fr (E.drop (x + 1)) b ∧ nA E x ≤ b := by
  obtain ⟨b, hb⟩ := hW
  obtain ⟨b1, h1⟩ := Fr_drop x hb
  rw [drop_en h] at h1
  obtain ⟨b', g1, g2, g3⟩ := h1
  exact ⟨b', g1, g2⟩
theorem isV_nA {E : List Sy} {x : Nat} (h : isV E x) : nA E x = 0 := by
  unfold nA
  rw [show (en E x).1 = -1 from h]
  rfl
theorem ch_lt {E : List Sy} {x k : Nat} (hW : WE E) (h : x < E.length) (hk : k < nA E x) : ch E x k < E.length := by
  obtain ⟨b, h1, h2⟩ := WE_at hW h
  have := (sk_le k h1 (by omega)).2 (by omega)
  rw [List.length_drop] at this
  unfold ch
  omega
theorem ch_gt {E : List Sy} (x k : Nat) : x < ch E x k := by unfold ch; omega
theorem ch_0 (E : List Sy) (x : Nat) : ch E x 0 = x + 1 := by unfold ch; rw [sk_0]
theorem ch_succ (E : List Sy) (x k : Nat) : ch E x (k + 1) = ch E x k + tsz E (ch E x k) := by
  unfold ch tsz
  rw [sk_add, List.drop_drop]
  omega
theorem tsz_eq {E : List Sy} {x : Nat} (h : x < E.length) : tsz E x = 1 + sk (E.drop (x + 1)) (nA E x) := by
  unfold tsz
  rw [drop_en h]
  show 1 + sk (E.drop (x + 1)) (0 + nA E x) = _
  rw [Nat.zero_add]
theorem tsz_le {E : List Sy} {x : Nat} (hW : WE E) (h : x < E.length) : 1 ≤ tsz E x ∧ x + tsz E x ≤ E.length := by
  obtain ⟨b, h1, h2⟩ := WE_at hW h
  have := (sk_le (nA E x) h1 h2).1
  rw [List.length_drop] at this
  rw [tsz_eq h]
  omega
theorem en_app {E L : List Sy} {x : Nat} (h : x < E.length) : en (E ++ L) x = en E x := gD_app_l h
theorem en_app_r (E L : List Sy) (j : Nat) : en (E ++ L) (E.length + j) = en L j := gD_app_r E L j
theorem nA_app {E L : List Sy} {x : Nat} (h : x < E.length) : nA (E ++ L) x = nA E x := by unfold nA; rw [en_app h]
theorem isV_app {E L : List Sy} {x : Nat} (h : x < E.length) : isV (E ++ L) x ↔ isV E x := by unfold isV; rw [en_app h]
theorem ch_app {E L : List Sy} {x k : Nat} (hW : WE E) (h : x < E.length) (hk : k ≤ nA E x) : ch (E ++ L) x k = ch E x k := by
  obtain ⟨b, h1, h2⟩ := WE_at hW h
  unfold ch
  rw [List.drop_append_of_le_length h, sk_app k L h1 (by omega)]
theorem tsz_app {E L : List Sy} {x : Nat} (hW : WE E) (h : x < E.length) : tsz (E ++ L) x = tsz E x := by
  obtain ⟨b, h1, h2⟩ := WE_at hW h
  rw [tsz_eq h, tsz_eq (by rw [List.length_append]; omega), nA_app h, List.drop_append_of_le_length h, sk_app _ L h1 h2]
theorem drop_app_r (E L : List Sy) (j : Nat) : (E ++ L).drop (E.length + j) = L.drop j := by
  rw [List.drop_append, List.drop_of_length_le (by omega), List.nil_append]
  congr 1
  omega
theorem ch_app_r (E L : List Sy) (j k : Nat) : ch (E ++ L) (E.length + j) k = E.length + ch L j k := by
  unfold ch
  rw [show E.length + j + 1 = E.length + (j + 1) by omega, drop_app_r]
  omega
theorem tsz_app_r (E L : List Sy) (j : Nat) : tsz (E ++ L) (E.length + j) = tsz L j := by
  unfold tsz
  rw [drop_app_r]
theorem nA_app_r (E L : List Sy) (j : Nat) : nA (E ++ L) (E.length + j) = nA L j := by unfold nA; rw [en_app_r]
theorem isV_app_r (E L : List Sy) (j : Nat) : isV (E ++ L) (E.length + j) ↔ isV L j := by unfold isV; rw [en_app_r]
theorem psL_tms : ∀ {Ps : List Part}, (∀ p ∈ Ps, PSh p) → ∃ b, Tms b (psL Ps)
  | [], _ => ⟨0, Tms_nil⟩
  | p :: Ps, h => by
    obtain ⟨b1, h1⟩ := PSh_tms (h p List.mem_cons_self)
    obtain ⟨b2, h2⟩ := psL_tms (Ps := Ps) (fun q hq => h q (List.mem_cons_of_mem _ hq))
    exact ⟨b1 + b2, Tms_app h1 h2⟩
theorem WE_tms {E : List Sy} {b : Nat} (h : Tms b E) : WE E := ⟨0 + b, by have := h [] 0 rfl; rw [List.append_nil] at this; exact this⟩
theorem psL_WE {Ps : List Part} (h : ∀ p ∈ Ps, PSh p) : WE (psL Ps) := by
  obtain ⟨b, hb⟩ := psL_tms h
  exact WE_tms hb
theorem WE_app {E L : List Sy} {b c : Nat} (h : Tms b E) (g : Tms c L) : WE (E ++ L) := WE_tms (Tms_app h g)
/-- relations between cells -/
def Eqv (R : Nat → Nat → Prop) : Prop := (∀ x, R x x) ∧ (∀ x y, R x y → R y x) ∧ ∀ x y z, R x y → R y z → R x z
def Clo (E : List Sy) (R : Nat → Nat → Prop) : Prop := ∀ x y, x < E.length → y < E.length → R x y → ¬ isV E x → ¬ isV E y → en E x = en E y ∧ ∀ k, k < nA E x → R (ch E x k) (ch E y k)
def Acy (E : List Sy) (R : Nat → Nat → Prop) : Prop := ∃ ρ : Nat → Nat, (∀ x y, x < E.length → y < E.length → R x y → ρ x = ρ y) ∧ ∀ x, x < E.length → ∀ k, k < nA E x → ρ (ch E x k) < ρ x
def UnX (E : List Sy) (R0 : Nat → Nat → Prop) (a b : Nat) (X : Nat → Nat → Prop) : Prop := Eqv X ∧ Clo E X ∧ (∀ x y, x < E.length → y < E.length → R0 x y → X x y) ∧ X a b
/-- related by a function -/
def Rf (g : Nat → Nat) : Nat → Nat → Prop := fun x y => g x = g y
theorem Rf_eqv (g : Nat → Nat) : Eqv (Rf g) := ⟨fun _ => rfl, fun _ _ h => h.symm, fun _ _ _ h k => h.trans k⟩
/-- the cells of a term, as g stands for them -/
def TL (E : List Sy) (g : Nat → Nat) : Nat → Nat → List Nat
  | 0, _ => []
  | n + 1, x => g x :: ((List.range (nA E (g x))).map (fun k => TL E g n (ch E (g x) k))).flatten
def Dp (E : List Sy) (g : Nat → Nat) : Nat → Nat → Prop
  | 0, _ => False
  | n + 1, x => ∀ k, k < nA E (g x) → Dp E g n (ch E (g x) k)
theorem Dp_mono {E : List Sy} {g : Nat → Nat} : ∀ {n : Nat} {x : Nat}, Dp E g n x → Dp E g (n + 1) x
  | 0, x, h => absurd h id
  | n + 1, x, h => fun k hk => Dp_mono (h k hk)
theorem Dp_le {E : List Sy} {g : Nat → Nat} {n : Nat} {x : Nat} (h : Dp E g n x) : ∀ (j : Nat), Dp E g (n + j) x
  | 0 => h
  | j + 1 => Dp_mono (Dp_le h j)
theorem TL_stable {E : List Sy} {g : Nat → Nat} : ∀ {n : Nat} {x : Nat}, Dp E g n x → TL E g (n + 1) x = TL E g n x
  | 0, x, h => absurd h id
  | n + 1, x, h => by
    show g x :: ((List.range (nA E (g x))).map (fun k => TL E g (n + 1) (ch E (g x) k))).flatten = g x :: ((List.range (nA E (g x))).map (fun k => TL E g n (ch E (g x) k))).flatten
    congr 2
    refine List.map_congr_left (fun k hk => ?_)
    exact TL_stable (h k (List.mem_range.mp hk))
theorem TL_le {E : List Sy} {g : Nat → Nat} {n : Nat} {x : Nat} (h : Dp E g n x) : ∀ (j : Nat), TL E g (n + j) x = TL E g n x
  | 0 => rfl
  | j + 1 => (TL_stable (Dp_le h j)).trans (TL_le h j)
theorem TL_hd {E : List Sy} {g : Nat → Nat} {n : Nat} {x : Nat} (h : Dp E g n x) : g x ∈ TL E g n x := by
  cases n with
  | zero => exact absurd h id
  | succ n => exact List.mem_cons_self
/-- ranks give depth -/
theorem Acy_Dp {E : List Sy} {g : Nat → Nat} (hW : WE E) (hg : ∀ x, x < E.length → g x < E.length ∧ g (g x) = g x) (h : Acy E (Rf g)) : ∃ n, ∀ x, x < E.length → Dp E g n x := by
  obtain ⟨ρ, h1, h2⟩ := h
  have key : ∀ (n : Nat) (x : Nat), x < E.length → ρ x < n → Dp E g n x := by
    intro n
    induction n with
    | zero => intro x _ h; omega
    | succ n ih =>
      intro x hx hr k hk
      have e : ρ (g x) = ρ x := h1 _ _ (hg x hx).1 hx (hg x hx).2
      have := h2 (g x) (hg x hx).1 k hk
      exact ih _ (ch_lt hW (hg x hx).1 hk) (by omega)
  have bd : ∀ (u : Nat), ∃ n, ∀ x, x < u → ρ x < n := by
    intro u
    induction u with
    | zero => exact ⟨0, fun x hx => absurd hx (Nat.not_lt_zero _)⟩
    | succ u ih =>
      obtain ⟨n, hn⟩ := ih
      refine ⟨n + ρ u + 1, fun x hx => ?_⟩
      by_cases q : x = u
      · subst q; omega
      · have := hn x (by omega); omega
  obtain ⟨n, hn⟩ := bd E.length
  exact ⟨n, fun x hx => key n x hx (hn x hx)⟩
theorem nd_len : ∀ (n : Nat) (l : List Nat), l.Nodup → (∀ c ∈ l, c < n) → l.length ≤ n := by
  intro n
  induction n with
  | zero =>
    intro l _ h
    cases l with
    | nil => exact Nat.le_refl _
    | cons a l => exact absurd (h a List.mem_cons_self) (Nat.not_lt_zero _)
  | succ n ih =>
    intro l hl h
    by_cases q : n ∈ l
    · have h1 := List.length_erase_of_mem q
      have h2 := ih (l.erase n) (hl.erase n) (fun c hc => by
        have := (List.Nodup.mem_erase_iff hl).mp hc
        have := h c this.2
        omega)
      omega
    · have := ih l hl (fun c hc => by
        have := h c hc
        have : c ≠ n := fun e => q (e ▸ hc)
        omega)
      omega
theorem nd_sub : ∀ (l F : List Nat), l.Nodup → (∀ c ∈ l, c ∈ F) → l.length ≤ F.length := by
  intro l
  induction l with
  | nil => intro F _ _; exact Nat.zero_le _
  | cons a l ih =>
    intro F hl h
    have ha := h a List.mem_cons_self
    have h1 := List.length_erase_of_mem ha
    have hp : 0 < F.length := List.length_pos_of_mem ha
    rw [List.nodup_cons] at hl
    have h2 := ih (F.erase a) hl.2 (fun c hc => by
      have hne : c ≠ a := fun e => hl.1 (e ▸ hc)
      exact (List.mem_erase_of_ne hne).mpr (h c (List.mem_cons_of_mem _ hc)))
    rw [List.length_cons]
    omega
