/-! the pure part: sizes of terms; the class's measure -/
def arS (s : Int) : Int := if 0 ≤ s then s % 8 else 0
theorem arS_r (s : Int) : 0 ≤ arS s ∧ arS s < 8 := by unfold arS; split <;> omega
theorem sp_argumentsOf {s : Int} {K : Int → Prop} (h : K (arS s)) : wp_P_argumentsOf s K := by
  refine ⟨fun z => ⟨z, ?_⟩, fun z => ?_⟩
  · unfold arS at h; rw [if_pos z] at h; exact h
  · unfold arS at h; rw [if_neg z] at h; exact h
/-- n terms further, by their sizes, up to u -/
def skp (sz : Int → Int) (u : Int) : Nat → Int → Int
  | 0, x => x
  | n + 1, x => if x < u then skp sz u n (x + sz x) else x
def MsR (sym sz : Int → Int) (u j : Int) : Prop := 1 ≤ sz j ∧ j + sz j ≤ u ∧ sz j = skp sz u (arS (sym j)).toNat (j + 1) - j
theorem skp_congr {sz sz' : Int → Int} {u k : Int} (h : ∀ y, k < y → y < u → sz y = sz' y ∧ 1 ≤ sz y) : ∀ (n : Nat) (x : Int), k < x → skp sz u n x = skp sz' u n x := by
  intro n
  induction n with
  | zero => intro x _; rfl
  | succ n ih =>
    intro x hx
    show (if x < u then skp sz u n (x + sz x) else x) = (if x < u then skp sz' u n (x + sz' x) else x)
    by_cases hu : x < u
    · have := h x hx hu
      rw [if_pos hu, if_pos hu, ← this.1, ih _ (by omega)]
    · rw [if_neg hu, if_neg hu]
section MEAS_r
variable {K : Ob → Prop}
theorem sp_meas30_r {L7 : Int → Int → Ob → Prop} {x1 x2 a : Int} {rc : Ob} (ha : 0 ≤ a ∧ a < 8) (h2 : 0 ≤ x2) (hu : rc.1 0 ≤ 240) (hs : ∀ y, x2 < y → y < rc.1 0 → 1 ≤ rc.2.1 1 y ∧ y + rc.2.1 1 y ≤ rc.1 0) : ∀ (n j : Nat) (x3 : Int), x2 < x3 → x3 ≤ rc.1 0 → (j : Int) ≤ a → a + 1 ≤ (n : Int) + j → (∀ z, z = skp (rc.2.1 1) (rc.1 0) (a - (j : Int)).toNat x3 → x2 < z → z ≤ rc.1 0 → Cod_measure_r_60 L7 x1 x2 z rc K) → Cod_measure_r_30 L7 n x1 x2 x3 a (j : Int) rc K := by
  intro n
  induction n with
  | zero => intro j x3 _ _ _ h; omega
  | succ n ih =>
    intro j x3 h3 hx hj hn hK
    refine ⟨fun z => ?_, fun z => ⟨fun z2 => ?_, fun z2 => ⟨⟨by omega, by omega⟩, ?_, ⟨by omega, by omega⟩, ?_⟩⟩⟩
    · refine hK x3 ?_ h3 hx
      rw [show (a - (j : Int)).toNat = 0 by omega]; rfl
    · refine hK x3 ?_ h3 hx
      obtain ⟨q, hq⟩ : ∃ q, (a - (j : Int)).toNat = q + 1 := ⟨(a - (j : Int)).toNat - 1, by omega⟩
      rw [hq]
      exact (if_neg (by omega)).symm
    · have := hs x3 h3 (by omega)
      exact ⟨by omega, by omega⟩
    · have hb := hs x3 h3 (by omega)
      have := ih (j + 1) (x3 + rc.2.1 1 x3) (by omega) (by omega) (by omega) (by omega) (fun z hz hz1 hz2 => hK z ?_ hz1 hz2)
      · exact this
      · obtain ⟨q, hq⟩ : ∃ q, (a - (j : Int)).toNat = q + 1 := ⟨(a - (j : Int)).toNat - 1, by omega⟩
        rw [hq, hz, show (a - ((j + 1 : Nat) : Int)).toNat = q by omega]
        exact (if_pos (by omega)).symm
theorem sp_measure_r {x1 : Int} {rc0 : Ob} (h1 : 0 ≤ x1 ∧ x1 ≤ rc0.1 0) (hu : rc0.1 0 ≤ 240) (hK : ∀ rc' : Ob, rc'.1 = rc0.1 → rc'.2.1 0 = rc0.2.1 0 → rc'.2.1 2 = rc0.2.1 2 → (∀ j, j < x1 → rc'.2.1 1 j = rc0.2.1 1 j) → (∀ j, x1 ≤ j → j < rc0.1 0 → MsR (rc'.2.1 0) (rc'.2.1 1) (rc0.1 0) j) → K rc') : wp_Cod_measure_r x1 rc0 K := by
  have loop : ∀ (n : Nat) (k : Int) (rc : Ob), x1 - 1 ≤ k → k < rc0.1 0 → k + 2 ≤ (n : Int) + x1 → rc.1 = rc0.1 → rc.2.1 0 = rc0.2.1 0 → rc.2.1 2 = rc0.2.1 2 → (∀ j, j < x1 → rc.2.1 1 j = rc0.2.1 1 j) → (∀ j, k < j → j < rc0.1 0 → MsR (rc.2.1 0) (rc.2.1 1) (rc0.1 0) j) → Cod_measure_r_7 n x1 k rc K := by
    intro n
    induction n with
    | zero => intro k rc _ _ h; omega
    | succ n ih =>
      intro k rc hk hk2 hn e1 e2 e3 e4 e5
      refine ⟨fun z => hK rc e1 e2 e3 e4 (fun j j1 j2 => e5 j (by omega) j2), fun z => ⟨⟨by omega, by omega⟩, ⟨by omega, by omega⟩, ?_⟩⟩
      have ha := arS_r (rc.2.1 0 k)
      have eu : rc.1 0 = rc0.1 0 := by rw [e1]
      refine sp_argumentsOf ⟨(arS (rc.2.1 0 k)).toNat + 2, ?_⟩
      have := sp_meas30_r (K := K) (L7 := fun x1 x2 rc' => Cod_measure_r_7 n x1 x2 rc' K) (x1 := x1) (x2 := k) (a := arS (rc.2.1 0 k)) (rc := rc) ha (by omega) (by omega) (fun y y1 y2 => ⟨(e5 y y1 (by omega)).1, by rw [eu]; exact (e5 y y1 (by omega)).2.1⟩) ((arS (rc.2.1 0 k)).toNat + 2) 0 (k + 1) (by omega) (by omega) (by omega) (by omega) (fun z2 hz hz1 hz2 => ?_)
      · exact this
      · refine ⟨⟨by omega, by omega⟩, ⟨by omega, by omega⟩, ⟨by omega, by omega⟩, ?_⟩
        rw [show arS (rc.2.1 0 k) - ((0 : Nat) : Int) = arS (rc.2.1 0 k) by omega, eu] at hz
        have cg : ∀ y, k < y → y < rc0.1 0 → rc.2.1 1 y = updI (rc.2.1 1) k (z2 - k) y ∧ 1 ≤ rc.2.1 1 y := fun y y1 y2 => ⟨by rw [updI_n (by omega)], (e5 y y1 y2).1⟩
        refine ih (k + -1) (sA rc 1 k (z2 - k)) (by omega) (by omega) (by omega) e1 e2 e3 (fun j hj => ?_) (fun j j1 j2 => ?_)
        · show updI (rc.2.1 1) k _ j = _
          rw [updI_n (by omega)]; exact e4 j hj
        · show MsR (rc.2.1 0) (updI (rc.2.1 1) k (z2 - k)) (rc0.1 0) j
          by_cases ej : j = k
          · subst ej
            unfold MsR
            rw [updI_s, ← skp_congr cg _ _ (by omega), ← hz]
            exact ⟨by omega, by omega, rfl⟩
          · have := e5 j (by omega) j2
            unfold MsR at this ⊢
            rw [updI_n ej, ← skp_congr (k := k) cg _ _ (by omega)]
            exact this
  refine ⟨⟨by omega, by omega⟩, (rc0.1 0 - x1).toNat + 2, loop _ (rc0.1 0 - 1) rc0 (by omega) (by omega) (by omega) rfl rfl rfl (fun _ _ => rfl) (fun j j1 j2 => by omega)⟩
end MEAS_r
section MEAS_p
variable {K : Ob → Prop}
theorem sp_meas30_p {L7 : Int → Int → Ob → Prop} {x1 x2 a : Int} {rc : Ob} (ha : 0 ≤ a ∧ a < 8) (h2 : 0 ≤ x2) (hu : rc.1 0 ≤ 960) (hs : ∀ y, x2 < y → y < rc.1 0 → 1 ≤ rc.2.1 1 y ∧ y + rc.2.1 1 y ≤ rc.1 0) : ∀ (n j : Nat) (x3 : Int), x2 < x3 → x3 ≤ rc.1 0 → (j : Int) ≤ a → a + 1 ≤ (n : Int) + j → (∀ z, z = skp (rc.2.1 1) (rc.1 0) (a - (j : Int)).toNat x3 → x2 < z → z ≤ rc.1 0 → Cod_measure_p_60 L7 x1 x2 z rc K) → Cod_measure_p_30 L7 n x1 x2 x3 a (j : Int) rc K := by
  intro n
  induction n with
  | zero => intro j x3 _ _ _ h; omega
  | succ n ih =>
    intro j x3 h3 hx hj hn hK
    refine ⟨fun z => ?_, fun z => ⟨fun z2 => ?_, fun z2 => ⟨⟨by omega, by omega⟩, ?_, ⟨by omega, by omega⟩, ?_⟩⟩⟩
    · refine hK x3 ?_ h3 hx
      rw [show (a - (j : Int)).toNat = 0 by omega]; rfl
    · refine hK x3 ?_ h3 hx
      obtain ⟨q, hq⟩ : ∃ q, (a - (j : Int)).toNat = q + 1 := ⟨(a - (j : Int)).toNat - 1, by omega⟩
      rw [hq]
      exact (if_neg (by omega)).symm
    · have := hs x3 h3 (by omega)
      exact ⟨by omega, by omega⟩
    · have hb := hs x3 h3 (by omega)
      have := ih (j + 1) (x3 + rc.2.1 1 x3) (by omega) (by omega) (by omega) (by omega) (fun z hz hz1 hz2 => hK z ?_ hz1 hz2)
      · exact this
      · obtain ⟨q, hq⟩ : ∃ q, (a - (j : Int)).toNat = q + 1 := ⟨(a - (j : Int)).toNat - 1, by omega⟩
        rw [hq, hz, show (a - ((j + 1 : Nat) : Int)).toNat = q by omega]
        exact (if_pos (by omega)).symm
theorem sp_measure_p {x1 : Int} {rc0 : Ob} (h1 : 0 ≤ x1 ∧ x1 ≤ rc0.1 0) (hu : rc0.1 0 ≤ 960) (hK : ∀ rc' : Ob, rc'.1 = rc0.1 → rc'.2.1 0 = rc0.2.1 0 → rc'.2.1 2 = rc0.2.1 2 → (∀ j, j < x1 → rc'.2.1 1 j = rc0.2.1 1 j) → (∀ j, x1 ≤ j → j < rc0.1 0 → MsR (rc'.2.1 0) (rc'.2.1 1) (rc0.1 0) j) → K rc') : wp_Cod_measure_p x1 rc0 K := by
  have loop : ∀ (n : Nat) (k : Int) (rc : Ob), x1 - 1 ≤ k → k < rc0.1 0 → k + 2 ≤ (n : Int) + x1 → rc.1 = rc0.1 → rc.2.1 0 = rc0.2.1 0 → rc.2.1 2 = rc0.2.1 2 → (∀ j, j < x1 → rc.2.1 1 j = rc0.2.1 1 j) → (∀ j, k < j → j < rc0.1 0 → MsR (rc.2.1 0) (rc.2.1 1) (rc0.1 0) j) → Cod_measure_p_7 n x1 k rc K := by
    intro n
    induction n with
    | zero => intro k rc _ _ h; omega
    | succ n ih =>
      intro k rc hk hk2 hn e1 e2 e3 e4 e5
      refine ⟨fun z => hK rc e1 e2 e3 e4 (fun j j1 j2 => e5 j (by omega) j2), fun z => ⟨⟨by omega, by omega⟩, ⟨by omega, by omega⟩, ?_⟩⟩
      have ha := arS_r (rc.2.1 0 k)
      have eu : rc.1 0 = rc0.1 0 := by rw [e1]
      refine sp_argumentsOf ⟨(arS (rc.2.1 0 k)).toNat + 2, ?_⟩
      have := sp_meas30_p (K := K) (L7 := fun x1 x2 rc' => Cod_measure_p_7 n x1 x2 rc' K) (x1 := x1) (x2 := k) (a := arS (rc.2.1 0 k)) (rc := rc) ha (by omega) (by omega) (fun y y1 y2 => ⟨(e5 y y1 (by omega)).1, by rw [eu]; exact (e5 y y1 (by omega)).2.1⟩) ((arS (rc.2.1 0 k)).toNat + 2) 0 (k + 1) (by omega) (by omega) (by omega) (by omega) (fun z2 hz hz1 hz2 => ?_)
      · exact this
      · refine ⟨⟨by omega, by omega⟩, ⟨by omega, by omega⟩, ⟨by omega, by omega⟩, ?_⟩
        rw [show arS (rc.2.1 0 k) - ((0 : Nat) : Int) = arS (rc.2.1 0 k) by omega, eu] at hz
        have cg : ∀ y, k < y → y < rc0.1 0 → rc.2.1 1 y = updI (rc.2.1 1) k (z2 - k) y ∧ 1 ≤ rc.2.1 1 y := fun y y1 y2 => ⟨by rw [updI_n (by omega)], (e5 y y1 y2).1⟩
        refine ih (k + -1) (sA rc 1 k (z2 - k)) (by omega) (by omega) (by omega) e1 e2 e3 (fun j hj => ?_) (fun j j1 j2 => ?_)
        · show updI (rc.2.1 1) k _ j = _
          rw [updI_n (by omega)]; exact e4 j hj
        · show MsR (rc.2.1 0) (updI (rc.2.1 1) k (z2 - k)) (rc0.1 0) j
          by_cases ej : j = k
          · subst ej
            unfold MsR
            rw [updI_s, ← skp_congr cg _ _ (by omega), ← hz]
            exact ⟨by omega, by omega, rfl⟩
          · have := e5 j (by omega) j2
            unfold MsR at this ⊢
            rw [updI_n ej, ← skp_congr (k := k) cg _ _ (by omega)]
            exact this
  refine ⟨⟨by omega, by omega⟩, (rc0.1 0 - x1).toNat + 2, loop _ (rc0.1 0 - 1) rc0 (by omega) (by omega) (by omega) rfl rfl rfl (fun _ _ => rfl) (fun j j1 j2 => by omega)⟩
end MEAS_p
/-- n terms further, all of them there -/
def Chn (sz : Int → Int) (u : Int) : Nat → Int → Int → Prop
  | 0, x, z => x = z
  | n + 1, x, z => x < u ∧ Chn sz u n (x + sz x) z
def AtL (sym : Int → Int) (u : Int) (T : List Sy) (x : Int) : Prop := x + (T.length : Int) = u ∧ ∀ i : Nat, i < T.length → arS (sym (x + (i : Int))) = ((T.getD i (0, 0)).1.toNat : Int)
theorem AtL_tail {sym : Int → Int} {u x : Int} {y : Sy} {T : List Sy} (h : AtL sym u (y :: T) x) : AtL sym u T (x + 1) ∧ arS (sym x) = (y.1.toNat : Int) := by
  obtain ⟨h1, h2⟩ := h
  rw [List.length_cons] at h1 h2
  refine ⟨⟨by omega, fun i hi => ?_⟩, ?_⟩
  · have := h2 (i + 1) (by omega)
    rw [show x + 1 + (i : Int) = x + ((i + 1 : Nat) : Int) by omega, this]
    rfl
  · have := h2 0 (by omega)
    rw [show x + ((0 : Nat) : Int) = x by omega] at this
    exact this
theorem chain {sym sz : Int → Int} {B u u' : Int} (hM : ∀ j, B ≤ j → j < u → MsR sym sz u j) (hu : u' ≤ u) : ∀ (n : Nat) (T : List Sy) (x : Int) (b c : Nat), T.length ≤ n → B ≤ x → AtL sym u' T x → Fr T b → c ≤ b → ∃ z T', Chn sz u' c x z ∧ skp sz u c x = z ∧ x ≤ z ∧ AtL sym u' T' z ∧ T'.length ≤ T.length ∧ Fr T' (b - c) := by
  intro n
  induction n with
  | zero =>
    intro T x b c hn hB hA hF hc
    cases T with
    | cons y T => rw [List.length_cons] at hn; omega
    | nil =>
      have hF : b = 0 := hF
      have : c = 0 := by omega
      subst this
      exact ⟨x, [], rfl, rfl, Int.le_refl _, hA, Nat.le_refl _, by show Fr [] (b - 0); rw [hF]; rfl⟩
  | succ n ih =>
    intro T x b c hn hB hA hF hc
    cases c with
    | zero => exact ⟨x, T, rfl, rfl, Int.le_refl _, hA, Nat.le_refl _, hF⟩
    | succ c =>
      cases T with
      | nil =>
        have hF : b = 0 := hF
        omega
      | cons y T =>
        obtain ⟨hA1, hy⟩ := AtL_tail hA
        obtain ⟨b', hF', hle, hb⟩ := hF
        rw [List.length_cons] at hn
        have hxu : x < u' := by
          have := hA.1
          rw [List.length_cons] at this
          omega
        obtain ⟨z1, T1, c1, c2, c3, c4, c5, c6⟩ := ih T (x + 1) b' y.1.toNat (by omega) (by omega) hA1 hF' hle
        have hm := hM x hB (by omega)
        have e1 : x + sz x = z1 := by
          have := hm.2.2
          rw [hy, show ((y.1.toNat : Nat) : Int).toNat = y.1.toNat from Int.toNat_natCast _, c2] at this
          omega
        obtain ⟨z2, T2, d1, d2, d3, d4, d5, d6⟩ := ih T1 z1 (b' - y.1.toNat) c (by omega) (by omega) c4 c6 (by omega)
        refine ⟨z2, T2, ⟨hxu, by rw [e1]; exact d1⟩, ?_, by omega, d4, by rw [List.length_cons]; omega, ?_⟩
        · show (if x < u then skp sz u c (x + sz x) else x) = z2
          rw [if_pos (by omega), e1]; exact d2
        · rw [show b - (c + 1) = b' - y.1.toNat - c by omega]
          exact d6
/-- the size of a whole term -/
theorem chain_one {sym sz : Int → Int} {B u u' x : Int} {T : List Sy} (hM : ∀ j, B ≤ j → j < u → MsR sym sz u j) (hu : u' ≤ u) (hB : B ≤ x) (hA : AtL sym u' T x) (hT : Tms 1 T) : x + sz x = u' := by
  have hF : Fr T 1 := by
    have := hT [] 0 rfl
    rw [List.append_nil] at this
    exact this
  obtain ⟨z, T', c1, c2, c3, c4, c5, c6⟩ := chain hM hu T.length T x 1 1 (Nat.le_refl _) hB hA hF (Nat.le_refl _)
  have hT' : T' = [] := by
    cases T' with
    | nil => rfl
    | cons y T' =>
      obtain ⟨b', -, q1, q2⟩ := c6
      omega
  subst hT'
  have h1 : x + sz x = z := c1.2
  have h2 := c4.1
  simp at h2
  omega
/-- each symbol's arguments, in a row of whole terms -/
theorem chain_all {sym sz : Int → Int} {B u x : Int} {T : List Sy} {b : Nat} (hM : ∀ j, B ≤ j → j < u → MsR sym sz u j) (hB : B ≤ x) (hA : AtL sym u T x) (hF : Fr T b) : ∀ j, x ≤ j → j < u → Chn sz u (arS (sym j)).toNat (j + 1) (j + sz j) := by
  induction T generalizing x b with
  | nil =>
    intro j j1 j2
    have := hA.1
    simp at this
    omega
  | cons y T ih =>
    intro j j1 j2
    obtain ⟨hA1, hy⟩ := AtL_tail hA
    obtain ⟨b', hF', hle, hb⟩ := hF
    by_cases e : j = x
    · subst e
      obtain ⟨z1, T1, c1, c2, c3, c4, c5, c6⟩ := chain hM (Int.le_refl _) T.length T (j + 1) b' y.1.toNat (Nat.le_refl _) (by omega) hA1 hF' hle
      have hm := (hM j hB j2).2.2
      rw [hy, show ((y.1.toNat : Nat) : Int).toNat = y.1.toNat from Int.toNat_natCast _] at hm ⊢
      rw [c2] at hm
      rw [show j + sz j = z1 by omega]
      exact c1
    · exact ih (by omega) hA1 hF' j (by omega) j2
