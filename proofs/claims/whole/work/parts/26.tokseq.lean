/-! the pure part: the class's tokens and the reference's takes are the same -/
theorem tok_nb {t : Int → Int} {n p e kd : Int} {w : Nat} (h : tokAt t n p e kd w) : t p ≠ 32 := by
  obtain ⟨-, -, h⟩ := h
  rcases h with ⟨w1, -⟩ | ⟨s1, -⟩ | ⟨s1, -⟩ | ⟨s1, -⟩ | ⟨s1, -⟩
  · exact (wordC_n w1).1
  · omega
  · omega
  · omega
  · unfold sign8 at s1; omega
theorem tok_uniq {t : Int → Int} {n p e kd e' kd' : Int} {w w' : Nat} (h : tokAt t n p e kd w) (h' : tokAt t n p e' kd' w') : e = e' ∧ kd = kd' ∧ (kd = 97 ∨ kd = 65 → w = w') := by
  obtain ⟨a, b, h⟩ := h
  obtain ⟨a', b', h'⟩ := h'
  have nw : ∀ {c : Int}, wordC c → (c = 58 ∨ c = 45 ∨ sign8 c) → False := fun hc h => by
    have := wordC_n hc
    rcases h with h | h | h
    · exact this.2.1 h
    · exact this.2.2.1 h
    · exact this.2.2.2.1 h
  rcases h with ⟨w1, w2, w3, w4⟩ | ⟨s1, s2, s3, s4⟩ | ⟨s1, s2, s3, s4⟩ | ⟨s1, s2, s3⟩ | ⟨s1, s2, s3⟩ <;> rcases h' with ⟨x1, x2, x3, x4⟩ | ⟨y1, y2, y3, y4⟩ | ⟨y1, y2, y3, y4⟩ | ⟨y1, y2, y3⟩ | ⟨y1, y2, y3⟩
  · have he : e = e' := by
      rcases Int.lt_trichotomy e e' with q | q | q
      · exact absurd (x2 e (by omega) q) (w3 (by omega))
      · exact q
      · exact absurd (w2 e' (by omega) q) (x3 (by omega))
    subst he
    refine ⟨rfl, ?_⟩
    rcases w4 with ⟨p1, p2, p3, p4⟩ | ⟨p1, p2⟩ <;> rcases x4 with ⟨r1, r2, r3, r4⟩ | ⟨r1, r2⟩
    · by_cases hs : smallC (t p)
      · exact ⟨(p2 hs).trans (r2 hs).symm, fun _ => p4.trans r4.symm⟩
      · exact ⟨(p3 hs).trans (r3 hs).symm, fun _ => p4.trans r4.symm⟩
    · omega
    · omega
    · exact ⟨p2.trans r2.symm, fun z => by omega⟩
  · exact absurd (Or.inl y1) (nw w1)
  · exact absurd (Or.inl y1) (nw w1)
  · exact absurd (Or.inr (Or.inl y1)) (nw w1)
  · exact absurd (Or.inr (Or.inr y1)) (nw w1)
  · exact absurd (Or.inl s1) (nw x1)
  · exact ⟨by omega, by omega, fun z => by omega⟩
  · exact absurd (by rw [show e' = p + 1 by omega] at y4; exact s3) (by rw [show e' = p + 1 by omega] at y4; exact y4 (by omega))
  · omega
  · unfold sign8 at y1; omega
  · exact absurd (Or.inl s1) (nw x1)
  · exact absurd y3 (by rw [show e = p + 1 by omega] at s4; exact s4 (by omega))
  · exact ⟨by omega, by omega, fun z => by omega⟩
  · omega
  · unfold sign8 at y1; omega
  · exact absurd (Or.inr (Or.inl s1)) (nw x1)
  · omega
  · omega
  · exact ⟨by omega, by omega, fun z => by omega⟩
  · unfold sign8 at y1; omega
  · exact absurd (Or.inr (Or.inr s1)) (nw x1)
  · unfold sign8 at s1; omega
  · unfold sign8 at s1; omega
  · unfold sign8 at s1; omega
  · refine ⟨by omega, by omega, fun z => ?_⟩
    unfold sign8 at s1; omega
/-- the tokens of a text, with their ends: what the parsers stand on -/
def TKE (t : Int → Int) (n : Int) (kd pl : Int → Int) (wd : Int → Nat) (en : Int → Int) (N : Int) : Prop := (∀ k, 0 ≤ k → k < N → tokAt t n (pl k) (en k) (kd k) (wd k)) ∧ (∀ k, 0 ≤ k → k < N → eb en k ≤ pl k ∧ ∀ i, eb en k ≤ i → i < pl k → t i = 32) ∧ eb en N ≤ n ∧ (∀ i, eb en N ≤ i → i < n → t i = 32) ∧ 0 ≤ N ∧ N ≤ n
theorem TKE_0 {t : Int → Int} {n : Int} {kd pl : Int → Int} {wd : Int → Nat} {en : Int → Int} {N : Int} (h : TKE t n kd pl wd en N) : ∀ k, 0 ≤ k → k ≤ N → 0 ≤ eb en k ∧ eb en k ≤ n := by
  obtain ⟨g1, g2, g3, g4, g5, g6⟩ := h
  have key : ∀ (j : Nat), (j : Int) ≤ N → 0 ≤ eb en j := by
    intro j
    induction j with
    | zero => intro _; unfold eb; simp
    | succ j ihj =>
      intro hj
      have b1 := (g1 j (by omega) (by omega)).1
      have b2 := (g2 j (by omega) (by omega)).1
      have b3 := ihj (by omega)
      unfold eb
      rw [if_neg (by omega), show ((j + 1 : Nat) : Int) - 1 = (j : Int) by omega]
      omega
  intro k k1 k2
  refine ⟨?_, ?_⟩
  · have := key k.toNat (by omega)
    rw [Int.toNat_of_nonneg k1] at this
    exact this
  · by_cases hk : k = N
    · rw [hk]; exact g3
    · by_cases h0 : k = 0
      · unfold eb; rw [if_pos h0]; omega
      · unfold eb
        rw [if_neg h0]
        exact (g1 (k - 1) (by omega) (by omega)).2.1
/-- take, at token k -/
theorem sp_take_k {m0 : Ob} {K : Ob → Prop} {kd pl : Int → Int} {wd : Int → Nat} {en : Int → Int} {N k : Int} (hn : 0 ≤ m0.1 0 ∧ m0.1 0 ≤ 240) (ht : ∀ i, 0 ≤ i → i < m0.1 0 → charC (m0.2.1 0 i)) (hT : TKE (m0.2.1 0) (m0.1 0) kd pl wd en N) (hk : 0 ≤ k ∧ k ≤ N) (ha : m0.1 3 = eb en k)
    (hE : k = N → ∀ m' : Ob, tkEq m0 m' → m'.1 1 = 0 → m'.1 2 = m0.1 0 → K m')
    (hK : k < N → ∀ m' : Ob, tkEq m0 m' → (kd k = 97 ∨ kd k = 65 → m'.2.2.1 0 = wd k) → m'.1 1 = tcOf (kd k) → m'.1 2 = pl k → (kd k ≠ 63 → m'.1 3 = eb en (k + 1)) → K m') : wp_M_take m0 K := by
  have h0 := TKE_0 hT k hk.1 hk.2
  obtain ⟨g1, g2, g3, g4, g5, g6⟩ := hT
  refine sp_M_take hn ht (by rw [ha]; exact h0) (fun hb m' q1 q2 q3 q4 => ?_) (fun m' p e kd' w hp hb q1 q2 q3 q4 q5 q6 => ?_)
  · by_cases hkN : k = N
    · exact hE hkN m' q1 q2 q3
    · have a1 := g1 k hk.1 (by omega)
      have a2 := g2 k hk.1 (by omega)
      exact absurd (hb (pl k) (by rw [ha]; exact a2.1) (by have := a1.1; have := a1.2.1; omega)) (tok_nb a1)
  · rw [ha] at hp hb
    by_cases hkN : k = N
    · rw [hkN] at hp
      exact absurd (g4 p hp (by have := q2.1; have := q2.2.1; omega)) (tok_nb q2)
    · have a1 := g1 k hk.1 (by omega)
      have a2 := g2 k hk.1 (by omega)
      have hpe : p = pl k := by
        rcases Int.lt_trichotomy p (pl k) with q | q | q
        · exact absurd (a2.2 p hp q) (tok_nb q2)
        · exact q
        · exact absurd (hb (pl k) a2.1 q) (tok_nb a1)
      subst hpe
      obtain ⟨u1, u2, u3⟩ := tok_uniq q2 a1
      subst u2
      refine hK (by omega) m' q1 (fun z => (q3 z).trans (u3 z)) q4 q5 (fun z => ?_)
      rw [q6 z, u1]
      unfold eb
      rw [if_neg (by omega), show k + 1 - 1 = k by omega]
