/-! the search: the reference's stack -/
def MSt (FL : List Frm) (a : Int → Int) (bs : Int) : List Nat → Prop
  | [] => True
  | x :: l => Lo FL (a (bs + 2 * (l.length : Int))) (a (bs + 2 * (l.length : Int) + 1)) x ∧ MSt FL a bs l
theorem MSt_eq {FL : List Frm} {a a' : Int → Int} {bs : Int} : ∀ {l : List Nat}, MSt FL a bs l → (∀ y, y < bs + 2 * (l.length : Int) → a' y = a y) → MSt FL a' bs l
  | [], _, _ => trivial
  | x :: l, h, e => by
    rw [List.length_cons] at e
    refine ⟨?_, MSt_eq h.2 (fun y hy => e y (by omega))⟩
    rw [e _ (by omega), e _ (by omega)]
    exact h.1
def ag (E : List Sy) (x n : Nat) : Nat → List Nat
  | 0 => []
  | k + 1 => ch E x (n - 1 - k) :: ag E x n k
theorem ag_len (E : List Sy) (x n : Nat) : ∀ k, (ag E x n k).length = k
  | 0 => rfl
  | k + 1 => by
    show (ag E x n k).length + 1 = k + 1
    rw [ag_len E x n k]
theorem ag_eq (E : List Sy) (x n : Nat) : ∀ k, k ≤ n → ag E x n k = ((List.range n).drop (n - k)).map (ch E x)
  | 0, _ => by
    rw [Nat.sub_zero, List.drop_of_length_le (by rw [List.length_range]; omega)]
    rfl
  | k + 1, h => by
    show ch E x (n - 1 - k) :: ag E x n k = _
    rw [ag_eq E x n k (by omega), List.drop_eq_getElem_cons (i := n - (k + 1)) (by rw [List.length_range]; omega), List.map_cons, List.getElem_range, show n - (k + 1) + 1 = n - k by omega, show n - 1 - k = n - (k + 1) by omega]
theorem ag_all (E : List Sy) (x n : Nat) : ag E x n n = (List.range n).map (ch E x) := by
  rw [ag_eq E x n n (Nat.le_refl _), Nat.sub_self]; rfl
/-- only the stack and what was seen last has changed -/
def sfr (m m' : Ob) : Prop := (∀ j, j ≠ 19 → j ≠ 20 → m'.1 j = m.1 j) ∧ (∀ j, j ≠ 24 → m'.2.1 j = m.2.1 j) ∧ m'.2.2 = m.2.2
theorem sfr_refl (m : Ob) : sfr m m := ⟨fun _ _ _ => rfl, fun _ _ => rfl, rfl⟩
theorem sfr_trans {a b c : Ob} (h : sfr a b) (g : sfr b c) : sfr a c := ⟨fun j z1 z2 => (g.1 j z1 z2).trans (h.1 j z1 z2), fun j z => (g.2.1 j z).trans (h.2.1 j z), g.2.2.trans h.2.2⟩
theorem sfr_19 (m : Ob) (p f : Int) : sfr m (m19 m p f) := ⟨fun j z1 z2 => (if_neg z2).trans (if_neg z1), fun _ _ => rfl, rfl⟩
theorem MCl_sfr {m m' : Ob} {c : Int} {p : Part} (h : MCl m c p) (f : sfr m m') : MCl m' c p := by
  unfold MCl
  rw [f.2.1 10 (by decide), f.2.1 11 (by decide), f.2.1 12 (by decide), f.2.1 13 (by decide), f.2.2]
  exact h
theorem MW_sfr {FL : List Frm} {m m' : Ob} (h : MW FL m) (f : sfr m m') : MW FL m' := ⟨fun q hq => ⟨MCl_sfr (h.1 q hq).1 f, (h.1 q hq).2⟩, h.2⟩
theorem BdOk_sfr {FL : List Frm} {m m' : Ob} {BL : List (Nat × Nat)} (h : BdOk FL m BL) (f : sfr m m') : BdOk FL m' BL := by
  unfold BdOk
  rw [f.2.1 22 (by decide), f.2.1 23 (by decide)]
  exact h
section MSK
variable {FL : List Frm} {m : Ob} {BL : List (Nat × Nat)}
theorem sp_pushAll {p f fr bs : Int} {x : Nat} {l : List Nat} {K : Int → Ob → Prop} (hM : MW FL m) (h : Lo FL p f x) (hfr : fr = bs + 2 * (l.length : Int)) (h0 : 0 ≤ bs) (h8 : fr + 8 ≤ 8000) (hS : MSt FL (m.2.1 24) bs l) (hK : ∀ m', sfr m m' → m'.1 = m.1 → (∀ y, y < fr → m'.2.1 24 y = m.2.1 24 y) → MSt FL (m'.2.1 24) bs (ag (fE FL) x (nA (fE FL) x) (nA (fE FL) x) ++ l) → K (fr + 2 * (nA (fE FL) x : Int)) m') : wp_M_pushAll p f fr m K := by
  have hl := Lo_en hM h
  have hx := hl.2.2.2.2.1
  have n4 : nA (fE FL) x ≤ 4 := by
    obtain ⟨A, c, P, C, j, h1, h2, h3, h4, h5⟩ := h
    have hq : (c, P) ∈ FL := by rw [h1]; exact List.mem_append_right _ List.mem_cons_self
    have h44 : ((pL P).getD j (0, 0)).1 ≤ 4 := (ov_40 (hM.1 (c, P) hq).2.2.2).2.2.2 _ (gD_mem h3)
    have hna : nA (fE FL) x = nA (pL P) j := by rw [fE_split h1, h5, nA_app_r, nA_app h3]
    rw [hna]
    unfold nA en
    omega
  have loop : ∀ (fuel i : Nat) (m' : Ob), i ≤ nA (fE FL) x → nA (fE FL) x < fuel + i → sfr m m' → m'.1 = m.1 → (∀ y, y < fr → m'.2.1 24 y = m.2.1 24 y) → (∀ i', i' < i → Lo FL (m'.2.1 24 (fr + 2 * ((nA (fE FL) x - 1 - i' : Nat) : Int))) (m'.2.1 24 (fr + 2 * ((nA (fE FL) x - 1 - i' : Nat) : Int) + 1)) (ch (fE FL) x i')) → M_pushAll_32 fuel f fr (nA (fE FL) x : Int) (p + ((ch (fE FL) x i - x : Nat) : Int)) ((nA (fE FL) x : Int) - 1 - (i : Int)) m' K := by
    intro fuel
    induction fuel with
    | zero => intro i m' h1 h2; omega
    | succ fuel ih =>
      intro i m' hi hf hs e1 hlow hpl
      refine ⟨fun z => ⟨⟨by omega, by omega⟩, ⟨by omega, by omega⟩, ?_⟩, fun z => ?_⟩
      · have ei : i = nA (fE FL) x := by omega
        subst ei
        have st : ∀ k, k ≤ nA (fE FL) x → MSt FL (m'.2.1 24) bs (ag (fE FL) x (nA (fE FL) x) k ++ l) := by
          intro k
          induction k with
          | zero => intro _; exact MSt_eq (l := l) hS (fun y hy => hlow y (by omega))
          | succ k ihk =>
            intro hk
            refine ⟨?_, ihk (by omega)⟩
            have := hpl (nA (fE FL) x - 1 - k) (by omega)
            have hlen : (ag (fE FL) x (nA (fE FL) x) k ++ l).length = k + l.length := by rw [List.length_append, ag_len]
            show Lo FL (m'.2.1 24 (bs + 2 * ((ag (fE FL) x (nA (fE FL) x) k ++ l).length : Int))) (m'.2.1 24 (bs + 2 * ((ag (fE FL) x (nA (fE FL) x) k ++ l).length : Int) + 1)) _
            rw [hlen, show bs + 2 * ((k + l.length : Nat) : Int) = fr + 2 * ((nA (fE FL) x - 1 - (nA (fE FL) x - 1 - k) : Nat) : Int) by omega]
            exact this
        exact hK m' hs e1 hlow (st _ (Nat.le_refl _))
      · have hin : i < nA (fE FL) x := by omega
        have hLa := Lo_ch hM h hin
        have hl2 := Lo_en hM hLa
        have hM' := MW_sfr hM hs
        have ek : (nA (fE FL) x : Int) - 1 - (i : Int) = ((nA (fE FL) x - 1 - i : Nat) : Int) := by omega
        rw [ek]
        have q1 := hl.2.2.1
        have q2 := hl.2.2.2.1
        have q3 := hM.2
        refine ⟨⟨by omega, by omega⟩, ⟨by omega, by omega⟩, ⟨by omega, by omega⟩, ⟨by omega, by omega⟩, ⟨by omega, by omega⟩, ⟨by omega, by omega⟩, ⟨by omega, by omega⟩, ?_⟩
        generalize hg : (sA (sA m' 24 (fr + 2 * ((nA (fE FL) x - 1 - i : Nat) : Int)) (p + ((ch (fE FL) x i - x : Nat) : Int))) 24 (fr + 2 * ((nA (fE FL) x - 1 - i : Nat) : Int) + 1) f) = m2
        have hs2 : sfr m m2 := by
          rw [← hg]
          exact sfr_trans hs ⟨fun _ _ _ => rfl, fun j hj => (if_neg hj).trans (if_neg hj), rfl⟩
        have e24 : ∀ y, m2.2.1 24 y = if y = fr + 2 * ((nA (fE FL) x - 1 - i : Nat) : Int) + 1 then f else if y = fr + 2 * ((nA (fE FL) x - 1 - i : Nat) : Int) then p + ((ch (fE FL) x i - x : Nat) : Int) else m'.2.1 24 y := fun y => by rw [← hg]; rfl
        have e12 : m2.1 = m.1 := by rw [← hg]; exact e1
        refine sp_behind (MW_sfr hM hs2) hLa ⟨⟨by omega, by omega⟩, ?_⟩
        have hgt := ch_gt (E := fE FL) x i
        have key := ih (i + 1) m2 (by omega) (by omega) hs2 e12 (fun y hy => ?_) (fun i' hi' => ?_)
        · rw [ch_succ] at key
          rw [show p + ((ch (fE FL) x i - x : Nat) : Int) + (tsz (fE FL) (ch (fE FL) x i) : Int) = p + ((ch (fE FL) x i + tsz (fE FL) (ch (fE FL) x i) - x : Nat) : Int) by omega, show ((nA (fE FL) x - 1 - i : Nat) : Int) + (-1) = (nA (fE FL) x : Int) - 1 - ((i + 1 : Nat) : Int) by omega]
          exact key
        · rw [e24, if_neg (by omega), if_neg (by omega)]
          exact hlow y hy
        · by_cases e : i' = i
          · subst e
            rw [e24, if_neg (by omega), if_pos rfl, e24, if_pos rfl]
            exact hLa
          · rw [e24, if_neg (by omega), if_neg (by omega), e24, if_neg (by omega), if_neg (by omega)]
            exact hpl i' (by omega)
  have q1 := hl.2.2.1
  have q2 := hl.2.2.2.1
  refine ⟨⟨hl.1, hl.2.1⟩, fun z => ⟨⟨by omega, by omega⟩, ⟨by omega, by omega⟩, nA (fE FL) x + 1, ?_⟩, fun z => ⟨⟨hl.1, hl.2.1⟩, ⟨by omega, by omega⟩, ?_, nA (fE FL) x + 1, ?_⟩⟩
  · have e0 : nA (fE FL) x = 0 := by rw [hl.2.2.2.2.2.1] at z; unfold nA; omega
    have := loop (nA (fE FL) x + 1) 0 m (Nat.zero_le _) (by omega) (sfr_refl m) rfl (fun _ _ => rfl) (fun i' hi' => absurd hi' (Nat.not_lt_zero _))
    rw [ch_0, e0] at this
    rw [e0]
    rw [show p + ((x + 1 - x : Nat) : Int) = p + 1 by omega] at this
    exact this
  · rw [hl.2.2.2.2.2.1] at z ⊢
    have : (en (fE FL) x).1 = (nA (fE FL) x : Int) := by unfold nA; omega
    rw [this]; exact ⟨by omega, by omega⟩
  · rw [hl.2.2.2.2.2.1] at z ⊢
    have e : (en (fE FL) x).1 = (nA (fE FL) x : Int) := by unfold nA; omega
    rw [e]
    have := loop (nA (fE FL) x + 1) 0 m (Nat.zero_le _) (by omega) (sfr_refl m) rfl (fun _ _ => rfl) (fun i' hi' => absurd hi' (Nat.not_lt_zero _))
    rw [ch_0, show p + ((x + 1 - x : Nat) : Int) = p + 1 by omega, show (nA (fE FL) x : Int) - 1 - ((0 : Nat) : Int) = (nA (fE FL) x : Int) - 1 by omega] at this
    exact this
end MSK
/-- below a cell -/
def Dsc (E : List Sy) (g : Nat → Nat) : Nat → Nat → Nat → Prop
  | 0, _, _ => False
  | n + 1, c, x => ∃ k, k < nA E c ∧ (x = ch E c k ∨ Dsc E g n (g (ch E c k)) x)
theorem Dsc_app {E : List Sy} {g : Nat → Nat} {x y k : Nat} (hk : k < nA E (g x)) (hy : y = ch E (g x) k) : ∀ {n c : Nat}, Dsc E g n c x → Dsc E g (n + 1) c y
  | 0, c, h => absurd h id
  | n + 1, c, h => by
    obtain ⟨j, hj, h⟩ := h
    rcases h with h | h
    · subst h
      exact ⟨j, hj, Or.inr ⟨k, hk, Or.inl hy⟩⟩
    · exact ⟨j, hj, Or.inr (Dsc_app hk hy h)⟩
theorem Dp_g {E : List Sy} {g : Nat → Nat} {d y z : Nat} (e : g y = g z) (h : Dp E g d y) : Dp E g d z := by
  cases d with
  | zero => exact h
  | succ d =>
    intro k hk
    rw [← e] at hk ⊢
    exact h k hk
theorem Dsc_Dp {E : List Sy} {g : Nat → Nat} (hW : WE E) (hg : ∀ y, y < E.length → g y < E.length ∧ g (g y) = g y) {x : Nat} : ∀ {n c d : Nat}, c < E.length → g c = c → Dsc E g n c x → Dp E g d c → ∃ d', d' < d ∧ Dp E g d' x
  | 0, c, d, _, _, h, _ => absurd h id
  | n + 1, c, 0, _, _, _, hd => absurd hd id
  | n + 1, c, d + 1, hc, hgc, h, hd => by
    obtain ⟨k, hk, h⟩ := h
    have h1 : Dp E g d (ch E c k) := by
      have := hd k (by rw [hgc]; exact hk)
      rw [hgc] at this
      exact this
    rcases h with h | h
    · subst h; exact ⟨d, Nat.lt_succ_self _, h1⟩
    · have hl := ch_lt hW hc hk
      obtain ⟨d', q1, q2⟩ := Dsc_Dp hW hg (hg _ hl).1 (hg _ hl).2 h (Dp_g (hg _ hl).2.symm h1)
      exact ⟨d', by omega, q2⟩
theorem Dsc_no {E : List Sy} {g : Nat → Nat} (hW : WE E) (hg : ∀ y, y < E.length → g y < E.length ∧ g (g y) = g y) {n c x : Nat} (hc : c < E.length) (hgc : g c = c) (h : Dsc E g n c x) (hx : g x = c) : ∀ (b d : Nat), d < b → Dp E g d c → False := by
  intro b
  induction b with
  | zero => intro d hd; omega
  | succ b ih =>
    intro d hd hD
    obtain ⟨d', q1, q2⟩ := Dsc_Dp hW hg hc hgc h hD
    exact ih d' (by omega) (Dp_g (by rw [hx, hgc]) q2)
/-- a stack that can't grow without end -/
def CB (E : List Sy) (g : Nat → Nat) (F : List Nat) : List Nat → Prop
  | [] => True
  | x :: l => (∃ cs : List Nat, cs.Nodup ∧ (∀ c ∈ cs, c ∈ F ∧ c < E.length ∧ g c = c ∧ ∃ n, Dsc E g n c x) ∧ l.length ≤ 3 * cs.length) ∧ CB E g F l
theorem CB_len {E : List Sy} {g : Nat → Nat} {F : List Nat} {x : Nat} {l : List Nat} (h : CB E g F (x :: l)) : l.length ≤ 3 * F.length := by
  obtain ⟨⟨cs, h1, h2, h3⟩, -⟩ := h
  have := nd_sub cs F h1 (fun c hc => (h2 c hc).1)
  omega
theorem CB_push {E : List Sy} {g : Nat → Nat} {F : List Nat} {x d : Nat} {l : List Nat} (hW : WE E) (hg : ∀ y, y < E.length → g y < E.length ∧ g (g y) = g y) (h : CB E g F (x :: l)) (hx : x < E.length) (hF : g x ∈ F) (hD : Dp E g d x) (n4 : nA E (g x) ≤ 4) : ∀ k, k ≤ nA E (g x) → CB E g F (ag E (g x) (nA E (g x)) k ++ l)
  | 0, _ => h.2
  | k + 1, hk => by
    refine ⟨?_, CB_push hW hg h hx hF hD n4 k (by omega)⟩
    obtain ⟨⟨cs, h1, h2, h3⟩, -⟩ := h
    have hno : g x ∉ cs := fun z => by
      obtain ⟨-, w1, w2, n, w3⟩ := h2 _ z
      exact Dsc_no hW hg w1 w2 w3 rfl (d + 1) d (Nat.lt_succ_self _) (Dp_g w2.symm hD)
    refine ⟨g x :: cs, List.nodup_cons.mpr ⟨hno, h1⟩, fun c hc => ?_, ?_⟩
    · rcases List.mem_cons.mp hc with e | e
      · subst e
        exact ⟨hF, (hg x hx).1, (hg x hx).2, 1, nA E (g x) - 1 - k, by omega, Or.inl rfl⟩
      · obtain ⟨w1, w2, w3, n, w4⟩ := h2 c e
        exact ⟨w1, w2, w3, n + 1, Dsc_app (k := nA E (g x) - 1 - k) (by omega) rfl w4⟩
    · show (ag E (g x) (nA E (g x)) k ++ l).length ≤ 3 * (g x :: cs).length
      rw [List.length_append, ag_len, List.length_cons]
      omega
