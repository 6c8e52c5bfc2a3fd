/-! the pure part: tokens -/
def packN (t : Int → Int) (p : Int) : Nat → Nat
  | 0 => 0
  | j + 1 => packN t p j ||| ((t (p + (j : Int))).toNat * 2 ^ (8 * j))
def sign8 (c : Int) : Prop := c = 40 ∨ c = 41 ∨ c = 44 ∨ c = 46 ∨ c = 33 ∨ c = 91 ∨ c = 93 ∨ c = 124
/-- a token from p up to e of a text of n characters: its kind, its word -/
def tokAt (t : Int → Int) (n p e kd : Int) (w : Nat) : Prop := p < e ∧ e ≤ n ∧
  ((wordC (t p) ∧ (∀ i, p ≤ i → i < e → wordC (t i)) ∧ (e < n → ¬ wordC (t e)) ∧ ((e - p ≤ 8 ∧ (smallC (t p) → kd = 97) ∧ (¬ smallC (t p) → kd = 65) ∧ w = packN t p (e - p).toNat) ∨ (8 < e - p ∧ kd = 63)))
  ∨ (t p = 58 ∧ e = p + 2 ∧ t (p + 1) = 45 ∧ kd = 58)
  ∨ (t p = 58 ∧ e = p + 1 ∧ kd = 63 ∧ (e < n → t e ≠ 45))
  ∨ (t p = 45 ∧ e = p + 1 ∧ kd = 63)
  ∨ (sign8 (t p) ∧ e = p + 1 ∧ kd = t p))
def eb (en : Int → Int) (k : Int) : Int := if k = 0 then 0 else en (k - 1)
/-- the tokens of a text of q characters -/
def TKS (t : Int → Int) (q : Int) (kd pl : Int → Int) (wd : Int → Nat) (c : Int) : Prop := ∃ en : Int → Int, (∀ k, 0 ≤ k → k < c → tokAt t q (pl k) (en k) (kd k) (wd k)) ∧ (∀ k, 0 ≤ k → k < c → eb en k ≤ pl k ∧ ∀ i, eb en k ≤ i → i < pl k → t i = 32) ∧ eb en c ≤ q ∧ (∀ i, eb en c ≤ i → i < q → t i = 32) ∧ 0 ≤ c ∧ c ≤ q
theorem wordC_n {c : Int} (h : wordC c) : c ≠ 32 ∧ c ≠ 58 ∧ c ≠ 45 ∧ ¬ sign8 c ∧ 0 ≤ c ∧ c < 256 := by
  unfold wordC smallC at h
  unfold sign8
  omega
theorem updI_s (f : Int → Int) (i v : Int) : updI f i v i = v := if_pos rfl
theorem updI_n {f : Int → Int} {i v j : Int} (h : j ≠ i) : updI f i v j = f j := if_neg h
theorem updN_s (f : Int → Nat) (i : Int) (v : Nat) : updN f i v i = v := if_pos rfl
theorem updN_n {f : Int → Nat} {i : Int} {v : Nat} {j : Int} (h : j ≠ i) : updN f i v j = f j := if_neg h
/-- one character more behind a token that doesn't take it -/
theorem tok_mono {t : Int → Int} {q p e kd : Int} {w : Nat} (h : tokAt t q p e kd w) (h1 : e = q → (wordC (t (q - 1)) → ¬ wordC (t q)) ∧ (t (q - 1) = 58 → t q ≠ 45)) : tokAt t (q + 1) p e kd w := by
  obtain ⟨a, b, h⟩ := h
  refine ⟨a, by omega, ?_⟩
  rcases h with ⟨w1, w2, w3, w4⟩ | h | ⟨s1, s2, s3, s4⟩ | h | h
  · refine Or.inl ⟨w1, w2, fun z => ?_, w4⟩
    by_cases he : e = q
    · rw [he]
      exact (h1 he).1 (w2 (q - 1) (by omega) (by omega))
    · exact w3 (by omega)
  · exact Or.inr (Or.inl h)
  · refine Or.inr (Or.inr (Or.inl ⟨s1, s2, s3, fun z => ?_⟩))
    by_cases he : e = q
    · rw [he]
      exact (h1 he).2 (by rw [show q - 1 = p by omega]; exact s1)
    · exact s4 (by omega)
  · exact Or.inr (Or.inr (Or.inr (Or.inl h)))
  · exact Or.inr (Or.inr (Or.inr (Or.inr h)))
/-- a token put behind the others -/
theorem TKS_put {t : Int → Int} {q : Int} {kd pl : Int → Int} {wd : Int → Nat} {c k0 : Int} {w0 : Nat} (h : TKS t q kd pl wd c) (hq : (wordC (t (q - 1)) → 1 ≤ q → ¬ wordC (t q)) ∧ (t (q - 1) = 58 → 1 ≤ q → t q ≠ 45)) (hn : tokAt t (q + 1) q (q + 1) k0 w0) : TKS t (q + 1) (updI kd c k0) (updI pl c q) (updN wd c w0) (c + 1) := by
  obtain ⟨en, h1, h2, h3, h4, h5, h6⟩ := h
  refine ⟨updI en c (q + 1), fun k k1 k2 => ?_, fun k k1 k2 => ?_, ?_, fun i i1 i2 => ?_, by omega, by omega⟩
  · by_cases hk : k = c
    · subst hk
      rw [updI_s, updI_s, updI_s, updN_s]
      exact hn
    · rw [updI_n hk, updI_n hk, updI_n hk, updN_n hk]
      have hx := h1 k k1 (by omega)
      have hpe := hx.1
      refine tok_mono hx (fun he => ⟨fun z => hq.1 z ?_, fun z => hq.2 z ?_⟩)
      all_goals
        have := (h2 k k1 (by omega)).1
        have h0 : 0 ≤ eb en k := by
          unfold eb
          split
          · omega
          · have hy := h1 (k - 1) (by omega) (by omega)
            have hz := (h2 (k - 1) (by omega) (by omega)).1
            have hpos : ∀ j, 0 ≤ j → j < c → 0 ≤ en j := by
              intro j j1 j2
              have key : ∀ (n : Nat), (n : Int) < c → 0 ≤ en n := by
                intro n
                induction n with
                | zero =>
                  intro hn
                  have a1 := (h1 0 (by omega) hn).1
                  have a2 := (h2 0 (by omega) hn).1
                  unfold eb at a2
                  simp at a2
                  have : ((0 : Nat) : Int) = 0 := rfl
                  rw [this]; omega
                | succ n ihn =>
                  intro hn
                  have a1 := (h1 ((n + 1 : Nat) : Int) (by omega) hn).1
                  have a2 := (h2 ((n + 1 : Nat) : Int) (by omega) hn).1
                  have a3 := ihn (by omega)
                  unfold eb at a2
                  rw [if_neg (by omega)] at a2
                  have e1 : ((n + 1 : Nat) : Int) - 1 = (n : Int) := by omega
                  rw [e1] at a2
                  omega
              have := key j.toNat (by omega)
              rw [Int.toNat_of_nonneg j1] at this
              exact this
            exact hpos (k - 1) (by omega) (by omega)
        omega
  · have hek : eb (updI en c (q + 1)) k = eb en k := by
      unfold eb
      split
      · rfl
      · rw [updI_n (by omega)]
    rw [hek]
    by_cases hk : k = c
    · subst hk
      rw [updI_s]
      exact ⟨h3, h4⟩
    · rw [updI_n hk]
      exact h2 k k1 (by omega)
  · unfold eb
    rw [if_neg (by omega), show c + 1 - 1 = c by omega, updI_s]
    omega
  · unfold eb at i1
    rw [if_neg (by omega), show c + 1 - 1 = c by omega, updI_s] at i1
    omega
theorem TKS_blank {t : Int → Int} {q : Int} {kd pl : Int → Int} {wd : Int → Nat} {c : Int} (h : TKS t q kd pl wd c) (hb : t q = 32) : TKS t (q + 1) kd pl wd c := by
  obtain ⟨en, h1, h2, h3, h4, h5, h6⟩ := h
  refine ⟨en, fun k k1 k2 => tok_mono (h1 k k1 k2) (fun _ => ⟨fun _ z => (wordC_n z).1 hb, fun _ => by omega⟩), h2, by omega, fun i i1 i2 => ?_, h5, by omega⟩
  by_cases hi : i = q
  · rw [hi]; exact hb
  · exact h4 i i1 (by omega)
/-- the last token ends where the text ends, if that is no blank -/
theorem TKS_last {t : Int → Int} {q : Int} {kd pl : Int → Int} {wd : Int → Nat} {c : Int} (h : TKS t q kd pl wd c) (hq : 1 ≤ q) (hb : t (q - 1) ≠ 32) : 0 < c ∧ tokAt t q (pl (c - 1)) q (kd (c - 1)) (wd (c - 1)) ∧ ∀ (k0 p0 : Int) (w0 : Nat), p0 = pl (c - 1) → tokAt t (q + 1) p0 (q + 1) k0 w0 → TKS t (q + 1) (updI kd (c - 1) k0) pl (updN wd (c - 1) w0) c := by
  obtain ⟨en, h1, h2, h3, h4, h5, h6⟩ := h
  have he : eb en c = q := by
    by_cases z : eb en c = q
    · exact z
    · exact absurd (h4 (q - 1) (by omega) (by omega)) hb
  have hc : 0 < c := by
    by_cases z : c = 0
    · unfold eb at he; rw [if_pos z] at he; omega
    · omega
  have hel : en (c - 1) = q := by unfold eb at he; rw [if_neg (by omega)] at he; exact he
  have hl := h1 (c - 1) (by omega) (by omega)
  rw [hel] at hl
  refine ⟨hc, hl, fun k0 p0 w0 hp hn => ?_⟩
  subst hp
  have hlt : ∀ k, 0 ≤ k → k < c - 1 → en k < q := by
    have key : ∀ (d : Nat) (k : Int), 0 ≤ k → k < c - 1 → c - 1 - k ≤ d → en k < q := by
      intro d
      induction d with
      | zero => intro k k1 k2 k3; omega
      | succ d ih =>
        intro k k1 k2 k3
        have a2 := (h2 (k + 1) (by omega) (by omega)).1
        have a1 := (h1 (k + 1) (by omega) (by omega)).1
        unfold eb at a2
        rw [if_neg (by omega), show k + 1 - 1 = k by omega] at a2
        by_cases hk : k + 1 = c - 1
        · rw [hk, hel] at a1
          rw [hk] at a2
          omega
        · have := ih (k + 1) (by omega) (by omega) (by omega)
          omega
    intro k k1 k2
    exact key (c - 1 - k).toNat k k1 k2 (by omega)
  refine ⟨updI en (c - 1) (q + 1), fun k k1 k2 => ?_, fun k k1 k2 => ?_, ?_, fun i i1 i2 => ?_, h5, by omega⟩
  · by_cases hk : k = c - 1
    · subst hk
      rw [updI_s, updI_s, updN_s]
      exact hn
    · rw [updI_n hk, updI_n hk, updN_n hk]
      refine tok_mono (h1 k k1 k2) (fun z => ?_)
      have := hlt k k1 (by omega)
      omega
  · have hek : eb (updI en (c - 1) (q + 1)) k = eb en k := by
      unfold eb
      split
      · rfl
      · rw [updI_n (by omega)]
    rw [hek]
    exact h2 k k1 k2
  · unfold eb
    rw [if_neg (by omega), updI_s]
    omega
  · unfold eb at i1
    rw [if_neg (by omega), updI_s] at i1
    omega
theorem TKS_0 (t : Int → Int) (kd pl : Int → Int) (wd : Int → Nat) : TKS t 0 kd pl wd 0 := by
  refine ⟨fun _ => 0, fun k k1 k2 => by omega, fun k k1 k2 => by omega, ?_, fun i i1 i2 => ?_, by omega, by omega⟩
  · unfold eb; simp
  · unfold eb at i1; simp at i1; omega
