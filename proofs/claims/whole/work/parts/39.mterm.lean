/-! the pure part: the reference's reader: a term -/
def TxM (t : Int → Int) (n0 : Int) (m : Ob) : Prop := m.2.1 0 = t ∧ m.1 0 = n0
def TF (t : Int → Int) (n0 : Int) (kE : Int → Int) (wE : Int → Nat) (pl en : Int → Int) (N : Int) : Prop := TKF t n0 kE wE pl en N ∧ ∀ i, 0 ≤ i → i < n0 → charC (t i)
/-- the loop of read, at token k -/
def MR (x1 x2 x3 x4 k : Int) (m : Ob) (K : Int → Ob → Prop) : Prop := ∀ n : Nat, 302 ≤ (n : Int) + k → M_read_52 n x1 x2 x3 x4 k m K
theorem tc_ne {c : Int} (h : kdOk c) : tcOf c ≠ 0 := by
  unfold kdOk sign8 at h
  unfold tcOf
  repeat' split
  all_goals omega
theorem tc_sg {c v : Int} (h : kdOk c) (hv : sign8 v) : tcOf c = v ↔ c = v := by
  unfold kdOk sign8 at h
  unfold sign8 at hv
  unfold tcOf
  repeat' split
  all_goals omega
theorem tc_1 {c : Int} (h : kdOk c) : tcOf c = 1 ↔ c = 97 := by
  unfold kdOk sign8 at h
  unfold tcOf
  repeat' split
  all_goals omega
theorem tc_2 {c : Int} (h : kdOk c) : tcOf c = 2 ↔ c = 65 := by
  unfold kdOk sign8 at h
  unfold tcOf
  repeat' split
  all_goals omega
theorem tc_3 {c : Int} (h : kdOk c) : tcOf c = 3 ↔ c = 58 := by
  unfold kdOk sign8 at h
  unfold tcOf
  repeat' split
  all_goals omega
/-- what a take leaves at token k -/
def TKN (kE : Int → Int) (wE : Int → Nat) (pl en : Int → Int) (k : Int) (m m' : Ob) : Prop := tkEq m m' ∧ (kE k = 97 ∨ kE k = 65 → m'.2.2.1 0 = wE k) ∧ m'.1 1 = tcOf (kE k) ∧ m'.1 2 = pl k ∧ (kE k ≠ 63 → m'.1 3 = eb en (k + 1))
section MTK
variable {t : Int → Int} {n0 : Int} {kE : Int → Int} {wE : Int → Nat} {pl en : Int → Int} {N : Int} {x1 x2 x3 x4 k o : Int} {m : Ob} {K : Int → Ob → Prop}
theorem mr_tok (hF : TF t n0 kE wE pl en N) (hx : TxM t n0 m) (ha : m.1 3 = eb en k) (hk : 0 ≤ k) (hkN : k < N) (h : ∀ (m' : Ob) (n : Nat), 302 ≤ (n : Int) + (k + 1) → TKN kE wE pl en k m m' → ((x3 = 0 → M_read_130 (fun x1 x2 x3 x4 x5 m' => M_read_52 n x1 x2 x3 x4 x5 m' K) x1 x2 x4 k m' K) ∧ (¬ x3 = 0 → ((¬ (m'.1 1) = 40 → M_read_130 (fun x1 x2 x3 x4 x5 m' => M_read_52 n x1 x2 x3 x4 x5 m' K) x1 x2 x4 k m' K) ∧ ((m'.1 1) = 40 → wp_M_push 0 m' (fun r_11 m_10 => ((¬ r_11 = 0 → M_read_338 (fun x1 x2 x3 x4 x5 m' => M_read_52 n x1 x2 x3 x4 x5 m' K) x1 x2 0 1 k m_10 K) ∧ (r_11 = 0 → M_read_117 m_10 K)))))))) : MR x1 x2 x3 x4 k m K := by
  intro n hn
  have hkd := TKF_kd hF.1
  obtain ⟨⟨hE, h32, hpl, hn0, hn1⟩, hch⟩ := hF
  obtain ⟨hx1, hx2⟩ := hx
  cases n with
  | zero => have := hkd.2.2.2.2; omega
  | succ n =>
    refine ⟨fun z => by have := hkd.2.2.2.2; omega, fun _ => ?_⟩
    refine sp_take_k (kd := kE) (pl := pl) (wd := wE) (en := en) (N := N) (k := k) (by rw [hx2]; exact ⟨hn0, hn1⟩) (by rw [hx1, hx2]; exact hch) (by rw [hx1, hx2]; exact hE) ⟨hk, by omega⟩ ha (fun z => by omega) (fun _ m' q1 q2 q3 q4 q5 => ?_)
    exact ⟨fun _ => h m' n (by omega) ⟨q1, q2, q3, q4, q5⟩, fun z => absurd (q3.symm.trans z) (tc_ne (hkd.1 k hk hkN))⟩
theorem mr_end (hF : TF t n0 kE wE pl en N) (hx : TxM t n0 m) (ha : m.1 3 = eb en N) (h : ∀ m', tkEq m m' → M_read_71 x2 m' K) : MR x1 x2 x3 x4 N m K := by
  intro n hn
  have hkd := TKF_kd hF.1
  obtain ⟨⟨hE, h32, hpl, hn0, hn1⟩, hch⟩ := hF
  obtain ⟨hx1, hx2⟩ := hx
  cases n with
  | zero => have := hkd.2.2.2.2; omega
  | succ n =>
    refine ⟨fun z => by have := hkd.2.2.2.2; omega, fun _ => ?_⟩
    refine sp_take_k (kd := kE) (pl := pl) (wd := wE) (en := en) (N := N) (k := N) (by rw [hx2]; exact ⟨hn0, hn1⟩) (by rw [hx1, hx2]; exact hch) (by rw [hx1, hx2]; exact hE) ⟨hkd.2.2.2.1, Int.le_refl _⟩ ha (fun _ m' q1 q2 q3 => ?_) (fun z => by omega)
    exact ⟨fun z => absurd q2 z, fun _ => h m' q1⟩
theorem MR_338 {n : Nat} {y2 y3 y4 : Int} {m2 : Ob} (hn : 302 ≤ (n : Int) + (k + 1)) (hk : 0 ≤ k) (hkN : k < 300) (h : MR x1 y2 y3 y4 (k + 1) m2 K) : M_read_338 (fun x1 x2 x3 x4 x5 m' => M_read_52 n x1 x2 x3 x4 x5 m' K) x1 y2 y3 y4 k m2 K := ⟨⟨by omega, by omega⟩, h n hn⟩
theorem TF_N (hF : TF t n0 kE wE pl en N) : N ≤ 240 := (TKF_kd hF.1).2.2.2.2
/-- a token inside, a term awaited -/
theorem mr_aw (hF : TF t n0 kE wE pl en N) (hx : TxM t n0 m) (ha : m.1 3 = eb en k) (hk : 0 ≤ k) (hkN : k < N) (h8 : m.1 8 = o) (ho : 1 ≤ o ∧ o ≤ 15) (h3 : x3 = 0 ∨ kE k ≠ 40) (h9 : m.1 9 = 0 ∨ m.1 9 = 1) (hc : ¬ (kE k = 93 ∧ m.1 9 = 1 ∧ m.2.1 7 (o - 1) = 1 ∧ m.2.1 9 (o - 1) = 1))
    (h : ∀ m', TKN kE wE pl en k m m' → ∀ Q : Int → Ob → Prop, (∀ m2, K (m2.1 2) m2 → Q 0 m2) → (∀ m2, (m2.1 1 = 1 → MR x1 x2 1 0 (k + 1) m2 K) → (m2.1 1 ≠ 1 → m2.1 1 ≠ 91 → MR x1 x2 0 0 (k + 1) m2 K) → (m2.1 1 = 91 → MR x1 x2 0 1 (k + 1) m2 K) → Q 1 m2) → wp_M_beginTerm m' Q) : MR x1 x2 x3 1 k m K := by
  have hkd := (TKF_kd hF.1).1 k hk hkN
  have hN := TF_N hF
  refine mr_tok hF hx ha hk hkN (fun m' n hn hT => ?_)
  obtain ⟨⟨e1, e2, e3⟩, hw, htok, hpl, haf⟩ := hT
  have e8 : m'.1 8 = o := (e1 8 (by decide) (by decide) (by decide)).trans h8
  have e9 : m'.1 9 = m.1 9 := e1 9 (by decide) (by decide) (by decide)
  have B : M_read_249 (fun x1 x2 x3 x4 x5 m' => M_read_52 n x1 x2 x3 x4 x5 m' K) x1 x2 1 k m' K := by
    refine ⟨fun z => absurd z (by decide), fun _ => h m' ⟨⟨e1, e2, e3⟩, hw, htok, hpl, haf⟩ _ (fun m2 q => ⟨fun z => absurd rfl z, fun _ => q⟩) (fun m2 q1 q2 q3 => ⟨fun _ => ⟨fun z => ⟨fun z2 => ?_, fun z2 => ?_⟩, fun z => ⟨fun _ => ?_, fun z2 => by omega⟩⟩, fun z => absurd z (by decide)⟩)⟩
    · exact MR_338 hn hk (by omega) (q2 z z2)
    · exact MR_338 hn hk (by omega) (q3 z2)
    · exact MR_338 hn hk (by omega) (q1 z)
  have C : M_read_130 (fun x1 x2 x3 x4 x5 m' => M_read_52 n x1 x2 x3 x4 x5 m' K) x1 x2 1 k m' K := by
    refine ⟨fun _ => ⟨fun z => absurd z (by decide), fun _ => ⟨fun _ => B, fun e93 => ⟨fun _ => B, fun f9 => ⟨⟨by omega, by omega⟩, ⟨by omega, by omega⟩, fun _ => B, fun k7 => ⟨⟨by omega, by omega⟩, ⟨by omega, by omega⟩, fun _ => B, fun c9 => ?_⟩⟩⟩⟩⟩, fun z => by omega⟩
    rw [e8, e2] at k7 c9
    exact absurd ⟨(tc_sg hkd (by unfold sign8; omega)).mp (htok.symm.trans e93), by omega, k7, c9⟩ hc
  refine ⟨fun _ => C, fun z => ⟨fun _ => C, fun z2 => ?_⟩⟩
  rcases h3 with q | q
  · exact absurd q z
  · exact absurd ((tc_sg hkd (by unfold sign8; omega)).mp (htok.symm.trans z2)) q
/-- a token inside, behind a term -/
theorem mr_go (hF : TF t n0 kE wE pl en N) (hx : TxM t n0 m) (ha : m.1 3 = eb en k) (hk : 0 ≤ k) (hkN : k < N) (h8 : m.1 8 = o) (ho : 1 ≤ o ∧ o ≤ 15) (h3 : x3 = 0 ∨ kE k ≠ 40)
    (h : ∀ m', TKN kE wE pl en k m m' → ∀ Q : Int → Ob → Prop, (∀ m2, K (m2.1 2) m2 → Q 0 m2) → (∀ m2, ((m2.1 1 = 44 ∨ m2.1 1 = 124) → MR x1 x2 0 1 (k + 1) m2 K) → (m2.1 1 ≠ 44 → m2.1 1 ≠ 124 → MR x1 x2 0 0 (k + 1) m2 K) → Q 1 m2) → wp_M_goOn m' Q) : MR x1 x2 x3 0 k m K := by
  have hkd := (TKF_kd hF.1).1 k hk hkN
  have hN := TF_N hF
  refine mr_tok hF hx ha hk hkN (fun m' n hn hT => ?_)
  have hT0 := hT
  obtain ⟨⟨e1, e2, e3⟩, hw, htok, hpl, haf⟩ := hT
  have e8 : m'.1 8 = o := (e1 8 (by decide) (by decide) (by decide)).trans h8
  have B : M_read_249 (fun x1 x2 x3 x4 x5 m' => M_read_52 n x1 x2 x3 x4 x5 m' K) x1 x2 0 k m' K := by
    refine ⟨fun _ => h m' hT0 _ (fun m2 q => ⟨fun z => absurd rfl z, fun _ => q⟩) (fun m2 q1 q2 => ⟨fun _ => ⟨fun z => ?_, fun z => ⟨fun z2 => ?_, fun z2 => ?_⟩⟩, fun z => absurd z (by decide)⟩), fun z => absurd rfl z⟩
    · exact MR_338 hn hk (by omega) (q1 (Or.inl z))
    · exact MR_338 hn hk (by omega) (q2 z z2)
    · exact MR_338 hn hk (by omega) (q1 (Or.inr z2))
  have C : M_read_130 (fun x1 x2 x3 x4 x5 m' => M_read_52 n x1 x2 x3 x4 x5 m' K) x1 x2 0 k m' K := ⟨fun _ => ⟨fun _ => B, fun z => absurd rfl z⟩, fun z => by omega⟩
  refine ⟨fun _ => C, fun z => ⟨fun _ => C, fun z2 => ?_⟩⟩
  rcases h3 with q | q
  · exact absurd q z
  · exact absurd ((tc_sg hkd (by unfold sign8; omega)).mp (htok.symm.trans z2)) q
/-- ( behind a name -/
theorem mr_open (hF : TF t n0 kE wE pl en N) (hx : TxM t n0 m) (ha : m.1 3 = eb en k) (hk : 0 ≤ k) (hkN : k < N) (h8 : m.1 8 = o) (ho : 0 ≤ o ∧ o ≤ 15) (h4 : m.1 4 ≤ 1000) (h40 : 0 ≤ m.1 4) (e40 : kE k = 40)
    (h : ∀ m', TKN kE wE pl en k m m' → (o = 15 → K (m'.1 2) m') ∧ (o < 15 → MR x1 x2 0 1 (k + 1) (sI (sA (sA (sA m' 7 o 0) 8 o (m'.1 4 - 1)) 9 o 1) 8 (o + 1)) K)) : MR x1 x2 1 x4 k m K := by
  have hkd := (TKF_kd hF.1).1 k hk hkN
  have hN := TF_N hF
  refine mr_tok hF hx ha hk hkN (fun m' n hn hT => ?_)
  have hh := h m' hT
  obtain ⟨⟨e1, e2, e3⟩, hw, htok, hpl, haf⟩ := hT
  have e8 : m'.1 8 = o := (e1 8 (by decide) (by decide) (by decide)).trans h8
  have e4 : m'.1 4 = m.1 4 := e1 4 (by decide) (by decide) (by decide)
  refine ⟨fun z => absurd z (by decide), fun _ => ⟨fun z => absurd (htok.trans ((tc_sg hkd (by unfold sign8; omega)).mpr e40)) z, fun _ => ?_⟩⟩
  unfold wp_M_push
  rw [e8]
  refine ⟨fun z => ⟨⟨by omega, by omega⟩, ⟨by omega, by omega⟩, ⟨by omega, by omega⟩, ⟨by omega, by omega⟩, ⟨by omega, by omega⟩, fun _ => ?_, fun z => absurd z (by decide)⟩, fun z => ⟨fun z2 => absurd rfl z2, fun _ => hh.1 z⟩⟩
  exact MR_338 hn hk (by omega) (hh.2 (by omega))
/-- ] right behind [ -/
theorem mr_nil (hF : TF t n0 kE wE pl en N) (hx : TxM t n0 m) (ha : m.1 3 = eb en k) (hk : 0 ≤ k) (hkN : k < N) (h8 : m.1 8 = o) (ho : 1 ≤ o ∧ o ≤ 15) (h9 : m.1 9 = 1) (h7 : m.2.1 7 (o - 1) = 1) (hc : m.2.1 9 (o - 1) = 1) (e93 : kE k = 93)
    (h : ∀ m', TKN kE wE pl en k m m' → wp_M_emit 2 0 m' (fun m7 => m7.1 8 = o ∧ MR x1 x2 0 0 (k + 1) (sI (sI m7 8 (o - 1)) 9 0) K)) : MR x1 x2 0 1 k m K := by
  have hkd := (TKF_kd hF.1).1 k hk hkN
  have hN := TF_N hF
  refine mr_tok hF hx ha hk hkN (fun m' n hn hT => ?_)
  have hh := h m' hT
  obtain ⟨⟨e1, e2, e3⟩, hw, htok, hpl, haf⟩ := hT
  have e8 : m'.1 8 = o := (e1 8 (by decide) (by decide) (by decide)).trans h8
  have e9 : m'.1 9 = m.1 9 := e1 9 (by decide) (by decide) (by decide)
  have et := htok.trans ((tc_sg (v := 93) hkd (by unfold sign8; omega)).mpr e93)
  refine ⟨fun _ => ⟨fun _ => ⟨fun z => absurd z (by decide), fun _ => ⟨fun z => absurd et z, fun _ => ⟨fun z => by omega, fun _ => ⟨⟨by omega, by omega⟩, ⟨by omega, by omega⟩, fun z => absurd (by rw [e2, e8]; exact h7) z, fun _ => ⟨⟨by omega, by omega⟩, ⟨by omega, by omega⟩, fun z => absurd (by rw [e2, e8]; exact hc) z, fun _ => ?_⟩⟩⟩⟩⟩, fun z => by omega⟩, fun z => absurd rfl z⟩
  obtain ⟨p1, p2, p3, p4, p5⟩ := hh
  refine ⟨p1, p2, p3, ⟨by rw [p4]; omega, by rw [p4]; omega⟩, ?_⟩
  rw [p4]
  exact MR_338 hn hk (by omega) p5
/-- a token outside -/
theorem mr_out (hF : TF t n0 kE wE pl en N) (hx : TxM t n0 m) (ha : m.1 3 = eb en k) (hk : 0 ≤ k) (hkN : k < N) (h8 : m.1 8 = 0) (h3 : x3 = 0 ∨ kE k ≠ 40)
    (h : ∀ m', TKN kE wE pl en k m m' → ∀ Q : Int → Ob → Prop, (∀ m2, K (m2.1 2) m2 → Q (-1) m2) → (∀ r m2, 0 ≤ r → (m2.1 1 = 1 → MR x1 r 1 x4 (k + 1) m2 K) → (m2.1 1 ≠ 1 → MR x1 r 0 x4 (k + 1) m2 K) → Q r m2) → wp_M_outside x2 x1 m' Q) : MR x1 x2 x3 x4 k m K := by
  have hkd := (TKF_kd hF.1).1 k hk hkN
  have hN := TF_N hF
  refine mr_tok hF hx ha hk hkN (fun m' n hn hT => ?_)
  have hT0 := hT
  obtain ⟨⟨e1, e2, e3⟩, hw, htok, hpl, haf⟩ := hT
  have e8 : m'.1 8 = 0 := (e1 8 (by decide) (by decide) (by decide)).trans h8
  have C : M_read_130 (fun x1 x2 x3 x4 x5 m' => M_read_52 n x1 x2 x3 x4 x5 m' K) x1 x2 x4 k m' K := by
    refine ⟨fun z => absurd e8 z, fun _ => h m' hT0 _ (fun m2 q => ⟨fun _ => ⟨fun z => absurd z (by decide), fun _ => q⟩, fun _ => ⟨fun z => absurd z (by decide), fun _ => q⟩⟩) (fun r m2 hr q1 q2 => ⟨fun z => ⟨fun _ => ?_, fun z2 => absurd hr z2⟩, fun z => ⟨fun _ => ?_, fun z2 => absurd hr z2⟩⟩)⟩
    · exact MR_338 hn hk (by omega) (q2 z)
    · exact MR_338 hn hk (by omega) (q1 z)
  refine ⟨fun _ => C, fun z => ⟨fun _ => C, fun z2 => ?_⟩⟩
  rcases h3 with q | q
  · exact absurd q z
  · exact absurd ((tc_sg hkd (by unfold sign8; omega)).mp (htok.symm.trans z2)) q
end MTK
section MGO
variable {m : Ob} {Q : Int → Ob → Prop} {o κ c : Int}
theorem go_comma (h8 : m.1 8 = o + 1) (ho : 0 ≤ o ∧ o < 15) (et : m.1 1 = 44) (h7 : m.2.1 7 o = κ) (hκ : κ = 0 ∨ κ = 1) (h9 : m.2.1 9 o = c) (hc : 0 ≤ c ∧ c ≤ 1000) (h : Q 1 (sI (sA m 9 o (c + 1)) 9 κ)) : wp_M_goOn m Q := by
  have e : m.1 8 - 1 = o := by omega
  unfold wp_M_goOn
  rw [e, h7, h9]
  refine ⟨⟨by omega, by omega⟩, fun z => absurd et z, fun _ => ⟨⟨by omega, by omega⟩, fun z => by omega, fun _ => ⟨⟨by omega, by omega⟩, ⟨by omega, by omega⟩, ⟨by omega, by omega⟩, ⟨by omega, by omega⟩, fun z => ?_, fun z => ?_⟩⟩⟩
  · have : κ = 0 := by omega
    subst this
    exact ⟨Or.inl rfl, h⟩
  · subst z
    exact ⟨Or.inr rfl, h⟩
theorem go_close {r : Int} (h8 : m.1 8 = o + 1) (ho : 0 ≤ o ∧ o < 15) (et : m.1 1 = 41) (h7 : m.2.1 7 o = 0) (hr : m.2.1 8 o = r) (hrb : 0 ≤ r ∧ r < 500) (h9 : m.2.1 9 o = c) (h : Q 1 (sI (sA m 1 r c) 8 o)) : wp_M_goOn m Q := by
  have e : m.1 8 - 1 = o := by omega
  unfold wp_M_goOn M_goOn_61
  rw [e, hr, h9]
  exact ⟨⟨by omega, by omega⟩, fun _ => ⟨fun z => absurd et z, fun _ => ⟨⟨by omega, by omega⟩, fun z => absurd h7 z, fun _ => ⟨⟨by omega, by omega⟩, ⟨by omega, by omega⟩, hrb, h⟩⟩⟩, fun z => by omega⟩
theorem go_brk1 (h8 : m.1 8 = o + 1) (ho : 0 ≤ o ∧ o < 15) (et : m.1 1 = 93) (h7 : m.2.1 7 o = 1) (h : wp_M_emit 2 0 m (fun m1 => Q 1 (sI m1 8 o))) : wp_M_goOn m Q := by
  have e : m.1 8 - 1 = o := by omega
  unfold wp_M_goOn
  rw [e]
  exact ⟨⟨by omega, by omega⟩, fun _ => ⟨fun _ => ⟨fun z => absurd et z, fun _ => ⟨⟨by omega, by omega⟩, fun z => by omega, fun _ => ⟨⟨by omega, by omega⟩, fun z => absurd h7 z, fun _ => h⟩⟩⟩, fun z => by omega⟩, fun z => by omega⟩
theorem go_brk2 (h8 : m.1 8 = o + 1) (ho : 0 ≤ o ∧ o < 15) (et : m.1 1 = 93) (h7 : m.2.1 7 o = 2) (h : Q 1 (sI m 8 o)) : wp_M_goOn m Q := by
  have e : m.1 8 - 1 = o := by omega
  unfold wp_M_goOn
  rw [e]
  exact ⟨⟨by omega, by omega⟩, fun _ => ⟨fun _ => ⟨fun z => absurd et z, fun _ => ⟨⟨by omega, by omega⟩, fun z => by omega, fun _ => ⟨⟨by omega, by omega⟩, fun _ => h, fun z => by omega⟩⟩⟩, fun z => by omega⟩, fun z => by omega⟩
theorem go_bar (h8 : m.1 8 = o + 1) (ho : 0 ≤ o ∧ o < 15) (et : m.1 1 = 124) (h7 : m.2.1 7 o = 1) (h : Q 1 (sA m 7 o 2)) : wp_M_goOn m Q := by
  have e : m.1 8 - 1 = o := by omega
  unfold wp_M_goOn
  rw [e]
  exact ⟨⟨by omega, by omega⟩, fun _ => ⟨fun _ => ⟨fun _ => ⟨fun z => absurd et z, fun _ => ⟨⟨by omega, by omega⟩, fun z => absurd h7 z, fun _ => ⟨⟨by omega, by omega⟩, h⟩⟩⟩, fun z => by omega⟩, fun z => by omega⟩, fun z => by omega⟩
theorem go_bad (h8 : m.1 8 = o + 1) (ho : 0 ≤ o ∧ o < 15) (hb : (m.2.1 7 o = 0 ∧ m.1 1 ≠ 44 ∧ m.1 1 ≠ 41) ∨ (m.2.1 7 o = 1 ∧ m.1 1 ≠ 44 ∧ m.1 1 ≠ 93 ∧ m.1 1 ≠ 124) ∨ (m.2.1 7 o = 2 ∧ m.1 1 ≠ 93)) (h : Q 0 m) : wp_M_goOn m Q := by
  have e : m.1 8 - 1 = o := by omega
  have D : M_goOn_146 o m Q := ⟨fun _ => h, fun z => ⟨⟨by omega, by omega⟩, fun _ => h, fun z2 => by omega⟩⟩
  have C : M_goOn_103 o m Q := ⟨fun _ => D, fun z => ⟨⟨by omega, by omega⟩, fun _ => D, fun z2 => by omega⟩⟩
  have B : M_goOn_61 o m Q := ⟨fun _ => C, fun z => ⟨⟨by omega, by omega⟩, fun _ => C, fun z2 => by omega⟩⟩
  unfold wp_M_goOn
  rw [e]
  exact ⟨⟨by omega, by omega⟩, fun _ => B, fun z => ⟨⟨by omega, by omega⟩, fun _ => B, fun z2 => by omega⟩⟩
end MGO
/-- what a term leaves as it was -/
def tfr (m m' : Ob) : Prop := (∀ j, j ≠ 1 → j ≠ 2 → j ≠ 3 → j ≠ 4 → j ≠ 7 → j ≠ 8 → j ≠ 9 → m'.1 j = m.1 j) ∧ (∀ j, j ≠ 1 → j ≠ 6 → j ≠ 7 → j ≠ 8 → j ≠ 9 → m'.2.1 j = m.2.1 j) ∧ (∀ j, j ≠ 0 → j ≠ 1 → m'.2.2.2 j = m.2.2.2 j)
def tlow (o : Int) (m m' : Ob) : Prop := ∀ i, i < o → m'.2.1 7 i = m.2.1 7 i ∧ m'.2.1 8 i = m.2.1 8 i ∧ m'.2.1 9 i = m.2.1 9 i
def rfr (m m' : Ob) : Prop := (∀ j, j = 0 ∨ 10 ≤ j → m'.1 j = m.1 j) ∧ (∀ j, j = 0 ∨ 10 ≤ j → m'.2.1 j = m.2.1 j) ∧ (∀ j, 2 ≤ j → m'.2.2.2 j = m.2.2.2 j)
theorem tfr_refl (m : Ob) : tfr m m := ⟨fun _ _ _ _ _ _ _ _ => rfl, fun _ _ _ _ _ _ => rfl, fun _ _ _ => rfl⟩
theorem tfr_trans {a b c : Ob} (h : tfr a b) (g : tfr b c) : tfr a c := ⟨fun j z1 z2 z3 z4 z5 z6 z7 => (g.1 j z1 z2 z3 z4 z5 z6 z7).trans (h.1 j z1 z2 z3 z4 z5 z6 z7), fun j z1 z2 z3 z4 z5 => (g.2.1 j z1 z2 z3 z4 z5).trans (h.2.1 j z1 z2 z3 z4 z5), fun j z1 z2 => (g.2.2 j z1 z2).trans (h.2.2 j z1 z2)⟩
theorem tfr_tk {m m' : Ob} (h : tkEq m m') : tfr m m' := ⟨fun j z1 z2 z3 _ _ _ _ => h.1 j z1 z2 z3, fun j _ _ _ _ _ => by rw [h.2.1], fun j _ _ => by rw [h.2.2]⟩
theorem tfr_em {m m' : Ob} (h : emf m m') : tfr m m' := ⟨fun j _ _ _ z4 z5 _ _ => h.1 j z4 z5, fun j z1 z2 _ _ _ => h.2.1 j z1 z2, fun j z1 z2 => h.2.2.2 j z1 z2⟩
theorem tfr_8 (m : Ob) (v : Int) : tfr m (sI m 8 v) := ⟨fun j _ _ _ _ _ z _ => if_neg z, fun _ _ _ _ _ _ => rfl, fun _ _ _ => rfl⟩
theorem tfr_9 (m : Ob) (v : Int) : tfr m (sI m 9 v) := ⟨fun j _ _ _ _ _ _ z => if_neg z, fun _ _ _ _ _ _ => rfl, fun _ _ _ => rfl⟩
theorem tfr_A1 (m : Ob) (i v : Int) : tfr m (sA m 1 i v) := ⟨fun _ _ _ _ _ _ _ _ => rfl, fun j z _ _ _ _ => if_neg z, fun _ _ _ => rfl⟩
theorem tfr_A7 (m : Ob) (i v : Int) : tfr m (sA m 7 i v) := ⟨fun _ _ _ _ _ _ _ _ => rfl, fun j _ _ z _ _ => if_neg z, fun _ _ _ => rfl⟩
theorem tfr_A8 (m : Ob) (i v : Int) : tfr m (sA m 8 i v) := ⟨fun _ _ _ _ _ _ _ _ => rfl, fun j _ _ _ z _ => if_neg z, fun _ _ _ => rfl⟩
theorem tfr_A9 (m : Ob) (i v : Int) : tfr m (sA m 9 i v) := ⟨fun _ _ _ _ _ _ _ _ => rfl, fun j _ _ _ _ z => if_neg z, fun _ _ _ => rfl⟩
theorem tlow_refl (o : Int) (m : Ob) : tlow o m m := fun _ _ => ⟨rfl, rfl, rfl⟩
theorem tlow_trans {o : Int} {a b c : Ob} (h : tlow o a b) (g : tlow o b c) : tlow o a c := fun i hi => ⟨(g i hi).1.trans (h i hi).1, (g i hi).2.1.trans (h i hi).2.1, (g i hi).2.2.trans (h i hi).2.2⟩
theorem tlow_le {o o' : Int} {a b : Ob} (h : tlow o a b) (hl : o' ≤ o) : tlow o' a b := fun i hi => h i (by omega)
theorem tlow_tk {o : Int} {m m' : Ob} (h : tkEq m m') : tlow o m m' := fun i _ => by rw [h.2.1]; exact ⟨rfl, rfl, rfl⟩
theorem tlow_em {o : Int} {m m' : Ob} (h : emf m m') : tlow o m m' := fun i _ => by rw [h.2.1 7 (by decide) (by decide), h.2.1 8 (by decide) (by decide), h.2.1 9 (by decide) (by decide)]; exact ⟨rfl, rfl, rfl⟩
theorem tlow_I (o : Int) (m : Ob) (j : Nat) (v : Int) : tlow o m (sI m j v) := fun _ _ => ⟨rfl, rfl, rfl⟩
theorem tlow_A1 (o : Int) (m : Ob) (i v : Int) : tlow o m (sA m 1 i v) := fun _ _ => ⟨rfl, rfl, rfl⟩
theorem tlow_A7 (o : Int) (m : Ob) (v : Int) : tlow o m (sA m 7 o v) := fun i hi => ⟨if_neg (by omega), rfl, rfl⟩
theorem tlow_A8 (o : Int) (m : Ob) (v : Int) : tlow o m (sA m 8 o v) := fun i hi => ⟨rfl, if_neg (by omega), rfl⟩
theorem tlow_A9 (o : Int) (m : Ob) (v : Int) : tlow o m (sA m 9 o v) := fun i hi => ⟨rfl, rfl, if_neg (by omega)⟩
theorem rfr_tfr {m m' : Ob} (h : tfr m m') : rfr m m' := ⟨fun j z => h.1 j (by omega) (by omega) (by omega) (by omega) (by omega) (by omega) (by omega), fun j z => h.2.1 j (by omega) (by omega) (by omega) (by omega) (by omega), fun j z => h.2.2 j (by omega) (by omega)⟩
theorem rfr_trans {a b c : Ob} (h : rfr a b) (g : rfr b c) : rfr a c := ⟨fun j z => (g.1 j z).trans (h.1 j z), fun j z => (g.2.1 j z).trans (h.2.1 j z), fun j z => (g.2.2 j z).trans (h.2.2 j z)⟩
