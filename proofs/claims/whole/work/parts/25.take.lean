/-! the pure part: the reference's take -/
theorem sI_s (o : Ob) (k : Nat) (v : Int) : (sI o k v).1 k = v := if_pos rfl
theorem sI_n {o : Ob} {k j : Nat} {v : Int} (h : j ≠ k) : (sI o k v).1 j = o.1 j := if_neg h
theorem sp_M_at {x : Int} {m : Ob} {K : Int → Prop} (hx : 0 ≤ x) (hn : m.1 0 ≤ 240) (h1 : m.1 0 ≤ x → K 0) (h2 : x < m.1 0 → K (m.2.1 0 x)) : wp_M_at x m K := ⟨h1, fun a => ⟨⟨hx, by omega⟩, h2 (by omega)⟩⟩
/-- all but token, place, after and word are the same -/
def tkEq (m m' : Ob) : Prop := (∀ j, j ≠ 1 → j ≠ 2 → j ≠ 3 → m'.1 j = m.1 j) ∧ m'.2.1 = m.2.1 ∧ m'.2.2.2 = m.2.2.2
theorem tkEq_rf (m : Ob) : tkEq m m := ⟨fun _ _ _ _ => rfl, rfl, rfl⟩
theorem tkEq_I {m m' : Ob} {k : Nat} {v : Int} (h : tkEq m m') (hk : k = 1 ∨ k = 2 ∨ k = 3) : tkEq m (sI m' k v) := ⟨fun j a b c => by rw [sI_n (by omega)]; exact h.1 j a b c, h.2.1, h.2.2⟩
theorem tkEq_J {m m' : Ob} {v : Nat} (h : tkEq m m') : tkEq m (sJ m' 0 v) := ⟨h.1, h.2.1, h.2.2⟩
theorem tkEq_tr {a b c : Ob} (h : tkEq a b) (g : tkEq b c) : tkEq a c := ⟨fun j x y z => (g.1 j x y z).trans (h.1 j x y z), g.2.1.trans h.2.1, g.2.2.trans h.2.2⟩
/-- the reference's number of a token of the class's kind -/
def tcOf (kd : Int) : Int := if kd = 97 then 1 else if kd = 65 then 2 else if kd = 58 then 3 else if kd = 63 then -1 else if kd = 32 then 0 else kd
theorem packN_lt {t : Int → Int} {p : Int} : ∀ (j : Nat), (∀ i : Nat, i < j → 0 ≤ t (p + (i : Int)) ∧ t (p + (i : Int)) < 256) → packN t p j < 2 ^ (8 * j)
  | 0, _ => by show 0 < 2 ^ 0; decide
  | j + 1, h => by
    have h1 := packN_lt j (fun i hi => h i (by omega))
    have h2 := h j (by omega)
    have h3 : packN t p j < 2 ^ (8 * (j + 1)) := Nat.lt_of_lt_of_le h1 (Nat.pow_le_pow_right (by decide) (by omega))
    have h4 : (t (p + (j : Int))).toNat * 2 ^ (8 * j) < 2 ^ (8 * (j + 1)) := by
      have h5 : (t (p + (j : Int))).toNat < 2 ^ 8 := by omega
      have h6 := Nat.mul_lt_mul_of_pos_right h5 (Nat.pow_pos (n := 8 * j) (a := 2) (by decide))
      rw [← Nat.pow_add] at h6
      rw [show 8 * (j + 1) = 8 + 8 * j by omega]
      exact h6
    exact Nat.or_lt_two_pow h3 h4
section TAKE
variable {m0 : Ob} {K : Ob → Prop}
theorem sp_take_93 (hn : 0 ≤ m0.1 0 ∧ m0.1 0 ≤ 240) (ht : ∀ i, 0 ≤ i → i < m0.1 0 → charC (m0.2.1 0 i)) {p : Int} (hp : 0 ≤ p ∧ p < m0.1 0) (hw : wordC (m0.2.1 0 p))
    (hK : ∀ (m' : Ob) (e kd : Int) (w : Nat), tkEq m0 m' → tokAt (m0.2.1 0) (m0.1 0) p e kd w → (kd = 97 ∨ kd = 65 → m'.2.2.1 0 = w) → m'.1 1 = tcOf kd → m'.1 2 = p → m'.1 3 = e → K m') :
    ∀ (n : Nat) (m : Ob), tkEq m0 m → m.1 2 = p → p ≤ m.1 3 → m.1 3 ≤ m0.1 0 → m0.1 0 + 1 ≤ n + m.1 3 → (∀ i, p ≤ i → i < m.1 3 → wordC (m0.2.1 0 i)) → (m.1 3 - p ≤ 8 → m.2.2.1 0 = packN (m0.2.1 0) p (m.1 3 - p).toNat) → M_take_93 n (m0.2.1 0 p) m K := by
  intro n
  induction n with
  | zero => intro m h1 h2 h3 h4 h5; omega
  | succ n ih =>
    intro m h1 h2 h3 h4 h5 h6 h7
    have e0 : m.1 0 = m0.1 0 := h1.1 0 (by decide) (by decide) (by decide)
    have eA : m.2.1 0 = m0.2.1 0 := by rw [h1.2.1]
    have stop : (m.1 3 < m0.1 0 → ¬ wordC (m0.2.1 0 (m.1 3))) → p < m.1 3 → M_take_172 (m0.2.1 0 p) m K := fun hs hlt => by
      refine ⟨by rw [h2]; exact ⟨by omega, by omega⟩, fun a => ?_, fun a => ?_⟩
      · rw [h2] at a
        refine sp_M_isSmall (fun s => ⟨fun z => absurd z (by decide), fun _ => ?_⟩) (fun s => ⟨fun _ => ?_, fun z => absurd rfl z⟩)
        · exact hK _ (m.1 3) 97 _ (tkEq_I h1 (Or.inl rfl)) ⟨hlt, h4, Or.inl ⟨hw, h6, hs, Or.inl ⟨a, fun _ => rfl, fun z => absurd s z, rfl⟩⟩⟩ (fun _ => h7 a) rfl h2 rfl
        · exact hK _ (m.1 3) 65 _ (tkEq_I h1 (Or.inl rfl)) ⟨hlt, h4, Or.inl ⟨hw, h6, hs, Or.inl ⟨a, fun z => absurd z s, fun _ => rfl, rfl⟩⟩⟩ (fun _ => h7 a) rfl h2 rfl
      · rw [h2] at a
        exact hK _ (m.1 3) 63 0 (tkEq_I h1 (Or.inl rfl)) ⟨hlt, h4, Or.inl ⟨hw, h6, hs, Or.inr ⟨by omega, rfl⟩⟩⟩ (fun z => by omega) rfl h2 rfl
    refine sp_M_at (by omega) (by omega) (fun a => ?_) (fun a => ?_)
    · have hnw : ¬ wordC 0 := by unfold wordC smallC; omega
      refine sp_M_isWord (fun z => absurd z hnw) (fun _ => ⟨fun _ => stop (fun z => by omega) ?_, fun z => absurd rfl z⟩)
      by_cases hlt : p < m.1 3
      · exact hlt
      · omega
    · rw [eA]
      refine sp_M_isWord (fun hw3 => ⟨fun z => absurd z (by decide), fun _ => ⟨by rw [h2]; exact ⟨by omega, by omega⟩, fun a8 => ?_, fun a8 => ?_⟩⟩) (fun hw3 => ⟨fun _ => stop (fun _ => hw3) ?_, fun z => absurd rfl z⟩)
      · rw [h2] at a8
        refine ⟨⟨by omega, by omega⟩, ih _ (tkEq_I (tkEq_J h1) (Or.inr (Or.inr rfl))) h2 ?_ ?_ ?_ (fun i i1 i2 => ?_) (fun z => ?_)⟩
        · show p ≤ m.1 3 + 1; omega
        · show m.1 3 + 1 ≤ m0.1 0; omega
        · show m0.1 0 + 1 ≤ n + (m.1 3 + 1); omega
        · have i2 : i < m.1 3 + 1 := i2
          by_cases hi : i = m.1 3
          · rw [hi]; exact hw3
          · exact h6 i i1 (by omega)
        · have z : m.1 3 + 1 - p ≤ 8 := z
          omega
      · rw [h2] at a8
        have hc := charC_r (ht (m.1 3) (by omega) (by omega))
        refine sp_M_at (by omega) (by omega) (fun z => by omega) (fun _ => ?_)
        rw [eA, h2]
        refine ⟨hc.1, ⟨by omega, by omega⟩, ⟨by omega, by omega⟩, ⟨by omega, by omega⟩, shl_lt hc (by omega), ⟨by omega, by omega⟩, ?_⟩
        refine ih _ (tkEq_I (tkEq_J h1) (Or.inr (Or.inr rfl))) h2 ?_ ?_ ?_ (fun i i1 i2 => ?_) (fun z => ?_)
        · show p ≤ m.1 3 + 1; omega
        · show m.1 3 + 1 ≤ m0.1 0; omega
        · show m0.1 0 + 1 ≤ n + (m.1 3 + 1); omega
        · have i2 : i < m.1 3 + 1 := i2
          by_cases hi : i = m.1 3
          · rw [hi]; exact hw3
          · exact h6 i i1 (by omega)
        · show (m.2.2.1 0 ||| ((m0.2.1 0 (m.1 3)).toNat * 2 ^ (8 * (m.1 3 - p)).toNat)) = packN (m0.2.1 0) p (m.1 3 + 1 - p).toNat
          rw [h7 (by omega), show (m.1 3 + 1 - p).toNat = (m.1 3 - p).toNat + 1 by omega]
          show _ = packN (m0.2.1 0) p (m.1 3 - p).toNat ||| ((m0.2.1 0 (p + (((m.1 3 - p).toNat : Nat) : Int))).toNat * 2 ^ (8 * (m.1 3 - p).toNat))
          rw [show p + (((m.1 3 - p).toNat : Nat) : Int) = m.1 3 by omega, show (8 * (m.1 3 - p)).toNat = 8 * (m.1 3 - p).toNat by omega]
      · by_cases hlt : p < m.1 3
        · exact hlt
        · rw [show m.1 3 = p by omega] at hw3
          exact absurd hw hw3
theorem sp_take_34 (hn : 0 ≤ m0.1 0 ∧ m0.1 0 ≤ 240) (ht : ∀ i, 0 ≤ i → i < m0.1 0 → charC (m0.2.1 0 i)) {m : Ob} (h1 : tkEq m0 m) (hp : 0 ≤ m.1 2 ∧ m.1 2 ≤ m0.1 0) (hb : m.1 2 < m0.1 0 → m0.2.1 0 (m.1 2) ≠ 32)
    (hE : m.1 2 = m0.1 0 → ∀ m' : Ob, tkEq m0 m' → m'.1 1 = 0 → m'.1 2 = m0.1 0 → m'.1 3 = m0.1 0 → K m')
    (hK : ∀ (m' : Ob) (e kd : Int) (w : Nat), tkEq m0 m' → tokAt (m0.2.1 0) (m0.1 0) (m.1 2) e kd w → (kd = 97 ∨ kd = 65 → m'.2.2.1 0 = w) → m'.1 1 = tcOf kd → m'.1 2 = m.1 2 → (kd ≠ 63 → m'.1 3 = e) → K m') : M_take_34 m K := by
  have e0 : m.1 0 = m0.1 0 := h1.1 0 (by decide) (by decide) (by decide)
  have eA : m.2.1 0 = m0.2.1 0 := by rw [h1.2.1]
  refine sp_M_at hp.1 (by omega) (fun a => ?_) (fun a => ?_)
  · refine ⟨⟨by omega, by omega⟩, fun z => absurd rfl z, fun _ => ?_⟩
    exact hE (by omega) _ (tkEq_I (tkEq_I (tkEq_I h1 (Or.inr (Or.inr rfl))) (Or.inl rfl)) (Or.inr (Or.inr rfl))) rfl (show m.1 2 = _ by omega) (show m.1 2 = _ by omega)
  · rw [eA]
    have hcc := ht (m.1 2) hp.1 (by omega)
    have hc := charC_r hcc
    have hb := hb (by omega)
    have hpos : m0.2.1 0 (m.1 2) ≠ 0 := by
      unfold charC wordC smallC signC at hcc
      omega
    refine ⟨⟨by omega, by omega⟩, fun _ => ?_, fun z => absurd z hpos⟩
    have h3 := tkEq_I (v := m.1 2 + 1) h1 (k := 3) (Or.inr (Or.inr rfl))
    have bad : (m0.2.1 0 (m.1 2) = 45 ∨ (m0.2.1 0 (m.1 2) = 58 ∧ (m.1 2 + 1 < m0.1 0 → m0.2.1 0 (m.1 2 + 1) ≠ 45))) → M_take_247 (sI m 3 (m.1 2 + 1)) K := fun hz => by
      refine ⟨⟨?_, ?_⟩, ?_⟩
      · show (-2147483648 : Int) ≤ m.1 2 + 2; omega
      · show m.1 2 + 2 ≤ 2147483647; omega
      · refine hK _ (m.1 2 + 1) 63 0 (tkEq_I (tkEq_I h3 (Or.inl rfl)) (Or.inr (Or.inr rfl))) ⟨by omega, by omega, ?_⟩ (fun z => by omega) rfl rfl (fun z => absurd rfl z)
        rcases hz with hz | hz
        · exact Or.inr (Or.inr (Or.inr (Or.inl ⟨hz, rfl, rfl⟩)))
        · exact Or.inr (Or.inr (Or.inl ⟨hz.1, rfl, rfl, hz.2⟩))
    refine sp_M_isWord (fun hw => ⟨fun z => absurd z (by decide), fun _ => ?_⟩) (fun hw => ⟨fun _ => ⟨fun c58 => ?_, fun c58 => ⟨fun c45 => ?_, fun c45 => ?_⟩⟩, fun z => absurd rfl z⟩)
    · refine ⟨(m0.1 0 + 1).toNat, sp_take_93 hn ht ⟨hp.1, by omega⟩ hw (fun m' e kd w q1 q2 q3 q4 q5 q6 => hK m' e kd w q1 q2 q3 q4 q5 (fun _ => q6)) _ _ (tkEq_I (tkEq_J h3) (Or.inr (Or.inr rfl))) rfl ?_ ?_ ?_ (fun i i1 i2 => ?_) (fun _ => ?_)⟩
      · show m.1 2 ≤ m.1 2; omega
      · show m.1 2 ≤ m0.1 0; omega
      · show m0.1 0 + 1 ≤ ((m0.1 0 + 1).toNat : Int) + m.1 2; omega
      · have i2 : i < m.1 2 := i2
        omega
      · show 0 = packN _ _ (m.1 2 - m.1 2).toNat
        rw [show (m.1 2 - m.1 2).toNat = 0 by omega]
        rfl
    · refine ⟨fun z => absurd c58 z, fun _ => ⟨⟨?_, ?_⟩, ?_⟩⟩
      · show (-2147483648 : Int) ≤ m.1 2 + 1; omega
      · show m.1 2 + 1 ≤ 2147483647; omega
      · refine sp_M_at (show 0 ≤ m.1 2 + 1 by omega) (show m.1 0 ≤ 240 by omega) (fun z => ?_) (fun z => ?_)
        · have z : m.1 0 ≤ m.1 2 + 1 := z
          exact ⟨fun _ => bad (Or.inr ⟨c58, fun z2 => by omega⟩), fun z2 => absurd z2 (by decide)⟩
        · show (¬ m.2.1 0 (m.1 2 + 1) = 45 → _) ∧ (m.2.1 0 (m.1 2 + 1) = 45 → _)
          have z : m.1 2 + 1 < m.1 0 := z
          rw [eA]
          refine ⟨fun q => bad (Or.inr ⟨c58, fun _ => q⟩), fun q => ⟨⟨?_, ?_⟩, ?_⟩⟩
          · show (-2147483648 : Int) ≤ m.1 2 + 2; omega
          · show m.1 2 + 2 ≤ 2147483647; omega
          · exact hK _ (m.1 2 + 2) 58 0 (tkEq_I (tkEq_I h3 (Or.inl rfl)) (Or.inr (Or.inr rfl))) ⟨by omega, by omega, Or.inr (Or.inl ⟨c58, rfl, q, rfl⟩)⟩ (fun z => by omega) rfl rfl (fun _ => rfl)
    · have h8 : sign8 (m0.2.1 0 (m.1 2)) := by
        rcases hcc with z | z | z
        · exact absurd z hw
        · unfold signC at z
          unfold sign8
          omega
        · exact absurd z hb
      refine hK _ (m.1 2 + 1) _ 0 (tkEq_I h3 (Or.inl rfl)) ⟨by omega, by omega, Or.inr (Or.inr (Or.inr (Or.inr ⟨h8, rfl, rfl⟩)))⟩ (fun z => ?_) ?_ rfl (fun _ => rfl)
      · unfold sign8 at h8; omega
      · show m0.2.1 0 (m.1 2) = tcOf (m0.2.1 0 (m.1 2))
        unfold sign8 at h8
        unfold tcOf
        rw [if_neg (by omega), if_neg (by omega), if_neg (by omega), if_neg (by omega), if_neg (by omega)]
    · exact ⟨fun _ => bad (Or.inl c45), fun z => absurd z c58⟩
/-- take: the next token from 'after' on -/
theorem sp_M_take (hn : 0 ≤ m0.1 0 ∧ m0.1 0 ≤ 240) (ht : ∀ i, 0 ≤ i → i < m0.1 0 → charC (m0.2.1 0 i)) (ha : 0 ≤ m0.1 3 ∧ m0.1 3 ≤ m0.1 0)
    (hE : (∀ i, m0.1 3 ≤ i → i < m0.1 0 → m0.2.1 0 i = 32) → ∀ m' : Ob, tkEq m0 m' → m'.1 1 = 0 → m'.1 2 = m0.1 0 → m'.1 3 = m0.1 0 → K m')
    (hK : ∀ (m' : Ob) (p e kd : Int) (w : Nat), m0.1 3 ≤ p → (∀ i, m0.1 3 ≤ i → i < p → m0.2.1 0 i = 32) → tkEq m0 m' → tokAt (m0.2.1 0) (m0.1 0) p e kd w → (kd = 97 ∨ kd = 65 → m'.2.2.1 0 = w) → m'.1 1 = tcOf kd → m'.1 2 = p → (kd ≠ 63 → m'.1 3 = e) → K m') : wp_M_take m0 K := by
  have loop : ∀ (n : Nat) (m : Ob), tkEq m0 m → m0.1 3 ≤ m.1 2 → m.1 2 ≤ m0.1 0 → m0.1 0 + 1 ≤ n + m.1 2 → (∀ i, m0.1 3 ≤ i → i < m.1 2 → m0.2.1 0 i = 32) → M_take_8 n m K := by
    intro n
    induction n with
    | zero => intro m h1 h2 h3 h4; omega
    | succ n ih =>
      intro m h1 h2 h3 h4 h5
      have e0 : m.1 0 = m0.1 0 := h1.1 0 (by decide) (by decide) (by decide)
      have eA : m.2.1 0 = m0.2.1 0 := by rw [h1.2.1]
      have go : (m.1 2 < m0.1 0 → m0.2.1 0 (m.1 2) ≠ 32) → M_take_34 m K := fun hb => sp_take_34 hn ht h1 ⟨by omega, h3⟩ hb (fun he => hE (fun i i1 i2 => h5 i i1 (by omega))) (fun m' e kd w q1 q2 q3 q4 q5 q6 => hK m' (m.1 2) e kd w h2 h5 q1 q2 q3 q4 q5 q6)
      refine sp_M_at (by omega) (by omega) (fun a => ⟨fun _ => go (fun z => by omega), fun z => absurd z (by decide)⟩) (fun a => ?_)
      rw [eA]
      refine ⟨fun q => go (fun _ => q), fun q => ⟨⟨by omega, by omega⟩, ih _ (tkEq_I h1 (Or.inr (Or.inl rfl))) ?_ ?_ ?_ (fun i i1 i2 => ?_)⟩⟩
      · show m0.1 3 ≤ m.1 2 + 1; omega
      · show m.1 2 + 1 ≤ m0.1 0; omega
      · show m0.1 0 + 1 ≤ n + (m.1 2 + 1); omega
      · have i2 : i < m.1 2 + 1 := i2
        by_cases hi : i = m.1 2
        · rw [hi]; exact q
        · exact h5 i i1 (by omega)
  refine ⟨(m0.1 0 + 1).toNat, loop _ _ (tkEq_I (tkEq_rf m0) (Or.inr (Or.inl rfl))) ?_ ?_ ?_ (fun i i1 i2 => ?_)⟩
  · show m0.1 3 ≤ m0.1 3; omega
  · show m0.1 3 ≤ m0.1 0; omega
  · show m0.1 0 + 1 ≤ ((m0.1 0 + 1).toNat : Int) + m0.1 3; omega
  · have i2 : i < m0.1 3 := i2
    omega
end TAKE
