/-! the pure part: the class's tokens as the readers want them; its outcome -/
theorem packN_congr {t t' : Int → Int} {p : Int} : ∀ (j : Nat), (∀ i, p ≤ i → i < p + (j : Int) → t i = t' i) → packN t p j = packN t' p j
  | 0, _ => rfl
  | j + 1, h => by
    show packN t p j ||| _ = packN t' p j ||| _
    rw [packN_congr j (fun i a b => h i a (by omega)), h (p + (j : Int)) (by omega) (by omega)]
theorem packN_ge {t : Int → Int} {p : Int} : ∀ (j : Nat), (t p).toNat ≤ packN t p (j + 1)
  | 0 => by
    show (t p).toNat ≤ 0 ||| ((t (p + ((0 : Nat) : Int))).toNat * 2 ^ (8 * 0))
    rw [show p + ((0 : Nat) : Int) = p by omega]
    simp
  | j + 1 => Nat.le_trans (packN_ge j) Nat.left_le_or
theorem tokAt_congr {t t' : Int → Int} {n p e kd : Int} {w : Nat} (h0 : 0 ≤ p) (h : ∀ i, 0 ≤ i → i < n → t i = t' i) (ht : tokAt t n p e kd w) : tokAt t' n p e kd w := by
  obtain ⟨a, b, ht⟩ := ht
  have ep : t p = t' p := h p h0 (by omega)
  refine ⟨a, b, ?_⟩
  rcases ht with ⟨w1, w2, w3, w4⟩ | ⟨s1, s2, s3, s4⟩ | ⟨s1, s2, s3, s4⟩ | ⟨s1, s2⟩ | ⟨s1, s2, s3⟩
  · refine Or.inl ⟨by rw [← ep]; exact w1, fun i i1 i2 => by rw [← h i (by omega) (by omega)]; exact w2 i i1 i2, fun z => by rw [← h e (by omega) z]; exact w3 z, ?_⟩
    rcases w4 with ⟨x1, x2, x3, x4⟩ | x
    · refine Or.inl ⟨x1, by rw [← ep]; exact x2, by rw [← ep]; exact x3, ?_⟩
      rw [x4]
      exact packN_congr _ (fun i i1 i2 => h i (by omega) (by omega))
    · exact Or.inr x
  · exact Or.inr (Or.inl ⟨by rw [← ep]; exact s1, s2, by rw [← h (p + 1) (by omega) (by omega)]; exact s3, s4⟩)
  · exact Or.inr (Or.inr (Or.inl ⟨by rw [← ep]; exact s1, s2, s3, fun z => by rw [← h e (by omega) z]; exact s4 z⟩))
  · exact Or.inr (Or.inr (Or.inr (Or.inl ⟨by rw [← ep]; exact s1, s2⟩)))
  · exact Or.inr (Or.inr (Or.inr (Or.inr ⟨by rw [← ep]; exact s1, s2, by rw [← ep]; exact s3⟩)))
theorem TKE_congr {t t' : Int → Int} {n : Int} {kd pl : Int → Int} {wd : Int → Nat} {en : Int → Int} {N : Int} (h : ∀ i, 0 ≤ i → i < n → t i = t' i) (hT : TKE t n kd pl wd en N) : TKE t' n kd pl wd en N := by
  have h0 := TKE_0 hT
  obtain ⟨g1, g2, g3, g4, g5, g6⟩ := hT
  refine ⟨fun k k1 k2 => tokAt_congr ?_ h (g1 k k1 k2), fun k k1 k2 => ⟨(g2 k k1 k2).1, fun i i1 i2 => ?_⟩, g3, fun i i1 i2 => ?_, g5, g6⟩
  · have := (h0 k k1 (by omega)).1
    have := (g2 k k1 k2).1
    omega
  · have q := (h0 k k1 (by omega)).1
    have q2 := (g1 k k1 k2)
    have q3 := q2.1
    have q4 := q2.2.1
    rw [← h i (by omega) (by omega)]
    exact (g2 k k1 k2).2 i i1 i2
  · have q := (h0 N g5 (Int.le_refl _)).1
    rw [← h i (by omega) i2]
    exact g4 i i1 i2
def kdOk (c : Int) : Prop := c = 97 ∨ c = 65 ∨ c = 63 ∨ c = 58 ∨ sign8 c
theorem tok_kd {t : Int → Int} {n p e kd : Int} {w : Nat} (h : tokAt t n p e kd w) : kdOk kd ∧ (kd = 97 → w ≠ 1 ∧ w ≠ 2) := by
  obtain ⟨a, b, h⟩ := h
  unfold kdOk
  rcases h with ⟨w1, w2, w3, w4⟩ | ⟨s1, s2, s3, s4⟩ | ⟨s1, s2, s3, s4⟩ | ⟨s1, s2, s3⟩ | ⟨s1, s2, s3⟩
  · rcases w4 with ⟨x1, x2, x3, x4⟩ | ⟨x1, x2⟩
    · have big : 48 ≤ w := by
        obtain ⟨j, hj⟩ : ∃ j, (e - p).toNat = j + 1 := ⟨(e - p).toNat - 1, by omega⟩
        rw [x4, hj]
        refine Nat.le_trans ?_ (packN_ge j)
        unfold wordC smallC at w1
        omega
      by_cases hs : smallC (t p)
      · exact ⟨Or.inl (x2 hs), fun _ => by omega⟩
      · exact ⟨Or.inr (Or.inl (x3 hs)), fun _ => by omega⟩
    · exact ⟨Or.inr (Or.inr (Or.inl x2)), fun z => by omega⟩
  · exact ⟨Or.inr (Or.inr (Or.inr (Or.inl s4))), fun z => by omega⟩
  · exact ⟨Or.inr (Or.inr (Or.inl s3)), fun z => by omega⟩
  · exact ⟨Or.inr (Or.inr (Or.inl s3)), fun z => by omega⟩
  · exact ⟨Or.inr (Or.inr (Or.inr (Or.inr (by rw [s3]; exact s1)))), fun z => by unfold sign8 at s1; omega⟩
/-- the tokens of a text, END behind them -/
def TKF (t : Int → Int) (n : Int) (kE : Int → Int) (wE : Int → Nat) (pl en : Int → Int) (N : Int) : Prop := TKE t n kE pl wE en N ∧ (∀ x, N ≤ x → kE x = 32) ∧ pl N = n ∧ 0 ≤ n ∧ n ≤ 240
theorem TKF_kd {t : Int → Int} {n : Int} {kE : Int → Int} {wE : Int → Nat} {pl en : Int → Int} {N : Int} (h : TKF t n kE wE pl en N) : (∀ x, 0 ≤ x → x < N → kdOk (kE x)) ∧ (∀ x, 0 ≤ x → kE x ≠ 32 → x < N) ∧ (∀ x, 0 ≤ x → kE x = 97 → wE x ≠ 1 ∧ wE x ≠ 2) ∧ 0 ≤ N ∧ N ≤ 240 := by
  obtain ⟨⟨g1, g2, g3, g4, g5, g6⟩, h2, h3, h4, h5⟩ := h
  have hlt : ∀ x, 0 ≤ x → kE x ≠ 32 → x < N := fun x hx e => by
    by_cases q : N ≤ x
    · exact absurd (h2 x q) e
    · omega
  exact ⟨fun x a b => (tok_kd (g1 x a b)).1, hlt, fun x a e => (tok_kd (g1 x a (hlt x a (by omega)))).2 e, g5, by omega⟩
/-- the class's names between calls -/
def nmKp (nm : Ob) (NL : List Nat) : Prop := nmOk nm NL ∧ nm.1 0 = (NL.length : Int) ∧ nm.1 2 = 0
def nmD (nm : Ob) : Ob := sI (sI nm 1 (nm.1 0)) 2 0
theorem nmD_kp {nm : Ob} {NL0 NL t : List Nat} (h0 : nm.1 0 = (NL0.length : Int)) (h1 : nmOk nm NL) (h2 : NL = NL0 ++ t) : nmKp (nmD nm) NL0 := by
  obtain ⟨a, b, c⟩ := h1
  rw [h2, List.length_append] at b
  refine ⟨⟨h0, by omega, fun i hi => ?_⟩, h0, rfl⟩
  have := c i (by rw [h2, List.length_append]; omega)
  rw [h2, List.getD_eq_getElem?_getD, List.getElem?_append_left hi, ← List.getD_eq_getElem?_getD] at this
  exact this
theorem sp_outcome {x1 x2 : Int} {tk nm rd : Ob} {K : Int → Ob → Ob → Prop} (h5 : rd.1 5 = 0 ∨ rd.1 5 = 1) (hm : nm.1 2 = 0 ∨ nm.1 2 = 1) (hk : x1 = 0 → 0 ≤ rd.1 4 ∧ rd.1 4 < tk.1 0 ∧ tk.1 0 ≤ 241 ∧ 0 ≤ tk.2.1 1 (rd.1 4) ∧ tk.2.1 1 (rd.1 4) ≤ 240) (hw : x1 = 0 → ∀ rd', K (-1 - tk.2.1 1 (rd.1 4)) (nmD nm) rd') (hmu : ¬ x1 = 0 → (rd.1 5 = 1 ∨ nm.1 2 = 1) → ∀ rd', K (-1000) (nmD nm) rd') (hok : ¬ x1 = 0 → rd.1 5 = 0 → nm.1 2 = 0 → ∀ rd', K x2 (sI nm 0 (nm.1 1)) rd') : wp_Rd_outcome x1 x2 tk nm rd K := by
  have o := or01 h5 hm
  have o1 := orI_01 h5 hm
  refine ⟨hm, o.1, o.2.1, o.2.2, fun z => ⟨fun _ => ?_, fun z2 => absurd z z2⟩, fun z => ⟨fun z2 => ⟨fun z3 => absurd z3 z, fun _ => hmu z ?_ _⟩, fun z2 => ?_⟩⟩
  · have := hk z
    refine ⟨fun q => ?_, fun q => ⟨fun q2 => ?_, fun q2 => ⟨⟨?_, ?_⟩, ⟨?_, ?_⟩, ?_⟩⟩⟩
    · have q : rd.1 4 < 0 := q; omega
    · have q2 : tk.1 0 ≤ rd.1 4 := q2; omega
    · show 0 ≤ rd.1 4; omega
    · show rd.1 4 < 241; omega
    · show (-2147483648 : Int) ≤ -1 - tk.2.1 1 (rd.1 4); omega
    · show -1 - tk.2.1 1 (rd.1 4) ≤ 2147483647; omega
    · exact hw z _
  · rcases h5 with q | q
    · rcases hm with q' | q'
      · exact absurd (o1.2.mpr ⟨q, q'⟩) z2
      · exact Or.inr q'
    · exact Or.inl q
  · have := o1.2.mp z2
    exact hok z this.1 this.2 _
theorem TokC_of {tx tk : Ob} {N : Int} {en : Int → Int} (hn : tx.1 0 ≤ 240) (hc : tk.1 0 = N + 1) (hT : TKE (tx.2.1 0) (tx.1 0) (tk.2.1 0) (tk.2.1 1) (tk.2.2.2 0) en N) (h32 : tk.2.1 0 N = 32) : TokC tk (fun x => if x < N then tk.2.1 0 x else 32) (tk.2.2.2 0) N := by
  obtain ⟨g1, g2, g3, g4, g5, g6⟩ := hT
  refine ⟨fun x K hx hK => ⟨fun z => by omega, fun _ => ⟨fun z => ?_, fun z => ⟨⟨hx, by omega⟩, ?_, ?_⟩⟩⟩, fun x K hx hxN hK => ⟨fun z => by omega, fun _ => ⟨fun z => by omega, fun z => ⟨⟨hx, by omega⟩, hK⟩⟩⟩, fun x hx e => ?_, by omega, fun x hx e => ?_⟩
  · have hK : K (if x < N then tk.2.1 0 x else 32) := hK
    rw [if_neg (by omega)] at hK; exact hK
  · by_cases q : x < N
    · have := (tok_kd (g1 x hx q)).1
      unfold kdOk sign8 at this
      omega
    · rw [show x = N by omega, h32]; decide
  · have hK : K (if x < N then tk.2.1 0 x else 32) := hK
    by_cases q : x < N
    · rw [if_pos q] at hK; exact hK
    · rw [if_neg q] at hK
      rw [show x = N by omega, h32]; exact hK
  · by_cases q : x < N
    · exact q
    · exact absurd (if_neg q) e
  · by_cases q : x < N
    · have e : (if x < N then tk.2.1 0 x else 32) = 97 := e
      rw [if_pos q] at e
      exact (tok_kd (g1 x hx q)).2 e
    · have e : (if x < N then tk.2.1 0 x else 32) = 97 := e
      rw [if_neg q] at e
      exact absurd e (by decide)
theorem TKF_of {tx tk : Ob} {N : Int} {en : Int → Int} (h0 : 0 ≤ tx.1 0) (hn : tx.1 0 ≤ 240) (hT : TKE (tx.2.1 0) (tx.1 0) (tk.2.1 0) (tk.2.1 1) (tk.2.2.2 0) en N) (hp : tk.2.1 1 N = tx.1 0) : TKF (tx.2.1 0) (tx.1 0) (fun x => if x < N then tk.2.1 0 x else 32) (tk.2.2.2 0) (tk.2.1 1) en N := by
  obtain ⟨g1, g2, g3, g4, g5, g6⟩ := hT
  refine ⟨⟨fun k k1 k2 => ?_, g2, g3, g4, g5, g6⟩, fun x hx => if_neg (by omega), hp, h0, hn⟩
  show tokAt _ _ _ _ (if k < N then tk.2.1 0 k else 32) _
  rw [if_pos k2]
  exact g1 k k1 k2
theorem TKF_pl {t : Int → Int} {n : Int} {kE : Int → Int} {wE : Int → Nat} {pl en : Int → Int} {N : Int} (h : TKF t n kE wE pl en N) : ∀ k, 0 ≤ k → k ≤ N → 0 ≤ pl k ∧ pl k ≤ n := by
  intro k k1 k2
  have h0 := TKE_0 h.1 k k1 k2
  by_cases e : k = N
  · rw [e, h.2.2.1]; have := h.2.2.2.1; omega
  · have a1 := h.1.1 k k1 (by omega)
    have a2 := h.1.2.1 k k1 (by omega)
    have := a1.1
    have := a1.2.1
    omega
/-- a text that is right but too much -/
def OVT (x2 : Int) (NL0 : List Nat) (Qs : List Part) : Prop := 24 < x2 + (Qs.length : Int) ∨ OV Qs ∨ 32 < (nmL NL0 (psL Qs)).length
def PtAll (NL : List Nat) (Qs : List Part) (rc : Ob) : Prop := ∀ (A : List Part) (p : Part) (C : List Part), Qs = A ++ p :: C → Pt NL (rc.2.1 0) (rc.2.1 1) (rc.2.1 2) A.length ((psL A).length : Int) p
theorem TC_0 {NL0 : List Nat} {N : Int} {nm rc rd : Ob} (h : nmKp nm NL0) (hN : 0 ≤ N) : TC NL0 N [] 0 nm (sI (sI rc 0 0) 1 0) (rd0 (sI (sI (sI rd 4 0) 3 0) 5 0)) := by
  obtain ⟨h1, h2, h3⟩ := h
  exact ⟨NL0, ⟨h2, Or.inl h3, h1, ⟨[], (List.append_nil _).symm⟩, fun _ => rfl, fun z => by omega⟩, rfl, Int.le_refl _, Int.le_refl _, hN, rfl, Int.le_refl _, fun z => absurd z (Nat.lt_irrefl _), Or.inl rfl, rfl, rfl, fun z => absurd (show (0 : Int) = 1 from z) (by decide), fun p hp => absurd hp (List.not_mem_nil), fun _ _ => ⟨fun p hp => absurd hp (List.not_mem_nil), fun _ A p C hA => by cases A <;> cases hA⟩⟩
theorem sp_readClauses {x2 : Int} {tx tk nm rc rd : Ob} {NL0 : List Nat} {K : Int → Ob → Ob → Ob → Ob → Prop} (hn : 0 ≤ tx.1 0 ∧ tx.1 0 ≤ 240) (ht : ∀ i, 0 ≤ i → i < tx.1 0 → charC (tx.2.1 0 i)) (hnm : nmKp nm NL0) (hx2 : 0 ≤ x2 ∧ x2 ≤ 24)
    (hw : ∀ (kE : Int → Int) (wE : Int → Nat) (pl en : Int → Int) (N k' : Int) (j : Nat) (Qs : List Part), TKF (tx.2.1 0) (tx.1 0) kE wE pl en N → PCs kE wE j 0 k' false Qs → ∀ tk' nm' rc' rd', nmKp nm' NL0 → K (-1 - pl k') tk' nm' rc' rd')
    (hm : ∀ (kE : Int → Int) (wE : Int → Nat) (pl en : Int → Int) (N k' : Int) (j : Nat) (Qs : List Part), TKF (tx.2.1 0) (tx.1 0) kE wE pl en N → PCs kE wE j 0 k' true Qs → (∀ p ∈ Qs, PSh p) → ((psL Qs).length ≤ 240) → OVT x2 NL0 Qs → ∀ tk' nm' rc' rd', nmKp nm' NL0 → K (-1000) tk' nm' rc' rd')
    (hk : ∀ (kE : Int → Int) (wE : Int → Nat) (pl en : Int → Int) (N k' : Int) (j : Nat) (Qs : List Part), TKF (tx.2.1 0) (tx.1 0) kE wE pl en N → PCs kE wE j 0 k' true Qs → (∀ p ∈ Qs, PSh p) → ((psL Qs).length ≤ 240) → ¬ OVT x2 NL0 Qs → ∀ tk' nm' rc' rd', nmKp nm' (nmL NL0 (psL Qs)) → PtAll (nmL NL0 (psL Qs)) Qs rc' → rc'.1 0 = ((psL Qs).length : Int) → rc'.1 1 = (Qs.length : Int) → K (Qs.length : Int) tk' nm' rc' rd') : wp_Rd_readClauses x2 tx tk nm rc rd K := by
  unfold wp_Rd_readClauses wp_Rd_start
  refine sp_Tok_scan hn ht (fun tk' N e0 hTKS e32 epl => ?_)
  obtain ⟨en, hTKE⟩ : ∃ en, TKE (tx.2.1 0) (tx.1 0) (tk'.2.1 0) (tk'.2.1 1) (tk'.2.2.2 0) en N := hTKS
  have hT := TokC_of hn.2 e0 hTKE e32
  have hF := TKF_of hn.1 hn.2 hTKE epl
  have hkd := TKF_kd hF
  refine ⟨242, rcs_C hT 242 0 0 [] nm _ _ (TC_0 (rd := rd) (rc := rc) hnm hkd.2.2.2.1) (Int.le_refl _) (Int.le_refl _) (by decide) (fun ok k' j Qs nm' rc' rd' hp q1 q2 q3 => ?_)⟩
  have hkN := PCs_N hkd.2.1 j 0 k' ok Qs (Int.le_refl _) hkd.2.2.2.1 hp
  have hpl := TKF_pl hF k' hkN.1 hkN.2
  have hpc : 0 ≤ rc'.1 1 ∧ rc'.1 1 ≤ 240 := by
    cases ok with
    | false => exact ⟨(q3 rfl).2.2.2.2.1, (q3 rfl).2.2.2.2.2⟩
    | true =>
      obtain ⟨_, -, -, -, z4, z5, z6, z7, -⟩ := q2 rfl
      have := hkd.2.2.2.2
      omega
  have h5 : rd'.1 5 = 0 ∨ rd'.1 5 = 1 := by
    cases ok with
    | false => exact (q3 rfl).2.2.2.1
    | true =>
      obtain ⟨_, -, -, -, -, -, -, -, -, z9, -⟩ := q2 rfl
      exact z9
  have hm2 : nm'.1 2 = 0 ∨ nm'.1 2 = 1 := by
    cases ok with
    | false => exact (q3 rfl).2.1
    | true =>
      obtain ⟨_, z1, -⟩ := q2 rfl
      exact z1.2.1
  have go : ∀ bb : Int, (bb = 0 ∨ bb = 1) → (bb = 1 ↔ 24 < x2 + rc'.1 1) → Rd_readClauses_66 (b2i ok) bb (rd'.1 5) tx tk' nm' rc' rd' K := fun bb hb hbb => by
    have o := or01 h5 hb
    have o1 := orI_01 h5 hb
    refine ⟨o.1, o.2.1, o.2.2, ?_⟩
    refine sp_outcome o1.1 hm2 (fun z => ?_) (fun z rd2 => ?_) (fun z z2 rd2 => ?_) (fun z z2 z3 rd2 => ?_)
    · show 0 ≤ rd'.1 4 ∧ rd'.1 4 < tk'.1 0 ∧ tk'.1 0 ≤ 241 ∧ 0 ≤ tk'.2.1 1 (rd'.1 4) ∧ tk'.2.1 1 (rd'.1 4) ≤ 240
      rw [q1]
      have := hkd.2.2.2.2
      refine ⟨by omega, by omega, by omega, by omega, by omega⟩
    · cases ok with
      | true => exact absurd z (by decide)
      | false =>
        obtain ⟨f1, f2, ⟨NL, t, f3, f4⟩, -⟩ := q3 rfl
        show K (-1 - tk'.2.1 1 (rd'.1 4)) _ _ _ _
        rw [q1]
        exact hw _ _ _ _ _ k' j Qs hF hp tk' _ rc' rd2 (nmD_kp f1 f3 f4)
    · cases ok with
      | false => exact absurd rfl z
      | true =>
        obtain ⟨NL, ⟨n1, n2, n3, ⟨t, n4⟩, n5, n6⟩, z2', z3', z4', z5', z6', z7', z8', z9', z10', z11', z12', z13', z14'⟩ := q2 rfl
        rw [List.nil_append] at n5 n6 z6' z12' z13' z3'
        have := hkd.2.2.2.2
        refine hm _ _ _ _ _ k' j Qs hF hp z13' (by omega) ?_ tk' _ rc' rd2 (nmD_kp n1 n3 n4)
        rcases z2 with q | q
        · have q : orI (rd'.1 5) bb = 1 := q
          rcases hb with b | b
          · have : rd'.1 5 = 1 := by
              rcases h5 with w | w
              · have := o1.2.mpr ⟨w, b⟩; omega
              · exact w
            exact Or.inr (Or.inl (z12' this))
          · have := hbb.mp b
            exact Or.inl (by omega)
        · exact Or.inr (Or.inr (n6 q))
    · cases ok with
      | false => exact absurd rfl z
      | true =>
        obtain ⟨NL, ⟨n1, n2, n3, ⟨t, n4⟩, n5, n6⟩, z2', z3', z4', z5', z6', z7', z8', z9', z10', z11', z12', z13', z14'⟩ := q2 rfl
        rw [List.nil_append] at n5 n6 z2' z6' z12' z13' z14' z3'
        have z2 : orI (rd'.1 5) bb = 0 := z2
        obtain ⟨w1, w2⟩ := o1.2.mp z2
        have h24 : ¬ 24 < x2 + rc'.1 1 := fun q => by have := hbb.mpr q; omega
        have hl24 : Qs.length ≤ 24 := by omega
        obtain ⟨v1, v2⟩ := z14' w1 hl24
        have eNL := n5 z3
        have := hkd.2.2.2.2
        show K (rc'.1 1) tk' _ rc' _
        rw [z6']
        refine hk _ _ _ _ _ k' j Qs hF hp z13' (by omega) ?_ tk' _ rc' _ ⟨?_, ?_, z3⟩ ?_ z2' z6'
        · intro q
          rcases q with q | q | q
          · omega
          · rcases q with q | ⟨p, hp, q⟩
            · omega
            · exact v1 p hp q
          · rw [← eNL] at q
            have := n3.2.1
            omega
        · rw [← eNL]; exact n3
        · rw [← eNL]; exact n3.1
        · rw [← eNL]; exact v2 z3
  show wp_Cod_partCount_r rc' _
  refine ⟨⟨by omega, by omega⟩, fun z => go 0 (Or.inl rfl) (by omega), fun z => go 1 (Or.inr rfl) (by omega)⟩
theorem TC_1 {NL0 : List Nat} {N : Int} {nm rc rd : Ob} (h : nmKp nm NL0) (hN : 0 ≤ N) : TC NL0 N [] 0 nm (sI (sI rc 0 0) 1 0) (sI (sI (sI rd 4 0) 3 0) 5 0) := by
  obtain ⟨h1, h2, h3⟩ := h
  exact ⟨NL0, ⟨h2, Or.inl h3, h1, ⟨[], (List.append_nil _).symm⟩, fun _ => rfl, fun z => by omega⟩, rfl, Int.le_refl _, Int.le_refl _, hN, rfl, Int.le_refl _, fun z => absurd z (Nat.lt_irrefl _), Or.inl rfl, rfl, rfl, fun z => absurd (show (0 : Int) = 1 from z) (by decide), fun p hp => absurd hp (List.not_mem_nil), fun _ _ => ⟨fun p hp => absurd hp (List.not_mem_nil), fun _ A p C hA => by cases A <;> cases hA⟩⟩
def OVQ (NL0 : List Nat) (p : Part) : Prop := ovP p ∨ 32 < (nmL NL0 (pL p)).length
theorem sp_readQuestion {tx tk nm rc rd : Ob} {NL0 : List Nat} {K : Int → Ob → Ob → Ob → Ob → Prop} (hn : 0 ≤ tx.1 0 ∧ tx.1 0 ≤ 240) (ht : ∀ i, 0 ≤ i → i < tx.1 0 → charC (tx.2.1 0 i)) (hnm : nmKp nm NL0)
    (hw : ∀ (kE : Int → Int) (wE : Int → Nat) (pl en : Int → Int) (N k' : Int) (p : Part), TKF (tx.2.1 0) (tx.1 0) kE wE pl en N → PQu kE wE k' false p → ∀ tk' nm' rc' rd', nmKp nm' NL0 → K (-1 - pl k') tk' nm' rc' rd')
    (hm : ∀ (kE : Int → Int) (wE : Int → Nat) (pl en : Int → Int) (N k' : Int) (p : Part), TKF (tx.2.1 0) (tx.1 0) kE wE pl en N → PQu kE wE k' true p → PSh p → (pL p).length ≤ 240 → OVQ NL0 p → ∀ tk' nm' rc' rd', nmKp nm' NL0 → K (-1000) tk' nm' rc' rd')
    (hk : ∀ (kE : Int → Int) (wE : Int → Nat) (pl en : Int → Int) (N k' : Int) (p : Part), TKF (tx.2.1 0) (tx.1 0) kE wE pl en N → PQu kE wE k' true p → PSh p → (pL p).length ≤ 240 → ¬ OVQ NL0 p → ∀ tk' nm' rc' rd', nmKp nm' (nmL NL0 (pL p)) → Pt (nmL NL0 (pL p)) (rc'.2.1 0) (rc'.2.1 1) (rc'.2.1 2) 0 0 p → rc'.1 0 = ((pL p).length : Int) → K ((vN (pL p)).length : Int) tk' nm' rc' rd') : wp_Rd_readQuestion tx tk nm rc rd K := by
  unfold wp_Rd_readQuestion wp_Rd_start
  refine sp_Tok_scan hn ht (fun tk' N e0 hTKS e32 epl => ?_)
  obtain ⟨en, hTKE⟩ : ∃ en, TKE (tx.2.1 0) (tx.1 0) (tk'.2.1 0) (tk'.2.1 1) (tk'.2.2.2 0) en N := hTKS
  have hT := TokC_of hn.2 e0 hTKE e32
  have hF := TKF_of hn.1 hn.2 hTKE epl
  have hkd := TKF_kd hF
  have h0 := TC_1 (rd := rd) (rc := rc) (N := N) hnm hkd.2.2.2.1
  have hI := TC_start h0 hkd.2.2.2.2
  have hpc : (0 : Int) ≤ (([] : List Part).length : Int) ∧ (([] : List Part).length : Int) ≤ 240 := by decide
  have wrong : ∀ (k' : Int) (nm' rc' rd' : Ob), PQu (fun x => if x < N then tk'.2.1 0 x else 32) (tk'.2.2.2 0) k' false ([], []) → rd'.1 4 = k' → FC NL0 nm' rc' rd' → Rd_readQuestion_32 tx tk' nm' rc' rd' K := fun k' nm' rc' rd' hp q1 hf => by
    obtain ⟨f1, f2, ⟨NL, t, f3, f4⟩, f5, -⟩ := hf
    have hkN := PQu_N hkd.2.1 hkd.2.2.2.1 hp
    have hpl := TKF_pl hF k' hkN.1 hkN.2
    refine sp_outcome f5 f2 (fun z => ?_) (fun z rd2 => ?_) (fun z => absurd rfl z) (fun z => absurd rfl z)
    · rw [q1]
      have := hkd.2.2.2.2
      refine ⟨by omega, by omega, by omega, by omega, by omega⟩
    · rw [q1]
      exact hw _ _ _ _ _ k' _ hF hp tk' _ rc' rd2 (nmD_kp f1 f3 f4)
  refine ⟨242, rg_C hT 242 0 0 0 _ nm _ _ hI rfl rfl (Int.le_refl _) hkd.2.2.2.1 (Int.le_refl _) (Int.le_refl _) (by decide) (by decide) (Int.le_refl _) (Int.le_refl _) (Int.le_refl _) (fun ok k2 n G nm2 rc2 rd2 hg h24 hk2 hok hno => ?_)⟩
  cases ok with
  | false =>
    refine ⟨fun _ => ?_, fun z => absurd rfl z⟩
    obtain ⟨g', E', hE'⟩ := hno rfl
    exact wrong k2 nm2 rc2 rd2 ⟨n, Or.inl ⟨G, hg, rfl⟩⟩ h24 (IC_FC hE' hpc)
  | true =>
    obtain ⟨hI2, h23, hlt2, hl2, hb2, hg2⟩ := hok rfl
    refine ⟨fun z => absurd z (by decide), fun _ => ?_⟩
    have hsh : PSh ([], G) := ⟨Or.inl rfl, (PGo_sh hT.2.2.2.2 _ _ _ _ (Int.le_refl _) hg).1⟩
    have eE : psL [] ++ G.flatten = psL [] ++ pL ([], G) := rfl
    rw [eE, Int.zero_add] at hI2
    rw [eE] at hl2
    refine ep_C hT (p := ([], G)) h0 hI2 h23 h24 (by omega) hb2 (by omega) hl2 hsh (fun e46 rc' rd' hTC e0' e5 => ⟨fun z => absurd z (by decide), fun _ => ?_⟩) (fun e46 => ⟨fun _ => wrong k2 nm2 rc2 rd2 ⟨n, Or.inr ⟨k2, G, hg, Or.inl ⟨e46, rfl, rfl⟩⟩⟩ h24 (IC_FC hI2 hpc), fun z => absurd rfl z⟩)
    obtain ⟨NL, ⟨n1, n2, n3, ⟨t, n4⟩, n5, n6⟩, z2', z3', z4', z5', z6', z7', z8', z9', z10', z11', z12', z13', z14'⟩ := hTC
    have ePs : psL ([] ++ [([], G)]) = pL ([], G) := by rw [List.nil_append]; exact List.append_nil _
    rw [ePs] at n5 n6 z2' z3'
    refine sp_isAt hT (by omega) (fun e => ⟨fun z => absurd z (by decide), fun _ => ?_⟩) (fun e => ⟨fun _ => ?_, fun z => absurd rfl z⟩)
    · rw [z11'] at e
      have hp : PQu (fun x => if x < N then tk'.2.1 0 x else 32) (tk'.2.2.2 0) (k2 + 1) true ([], G) := ⟨n, Or.inr ⟨k2, G, hg, Or.inr (Or.inr ⟨e46, e, rfl, rfl, rfl⟩)⟩⟩
      have h240 := hkd.2.2.2.2
      refine sp_outcome z9' n2 (fun z => absurd z (by decide)) (fun z => absurd z (by decide)) (fun z z2 rd2 => ?_) (fun z z2 z3 rd2 => ?_)
      · refine hm _ _ _ _ _ (k2 + 1) _ hF hp hsh (by omega) ?_ tk' _ rc' rd2 (nmD_kp n1 n3 n4)
        rcases z2 with q | q
        · rcases z12' q with q | ⟨p, hp', q⟩
          · exact absurd (show 24 < 1 from q) (by decide)
          · rw [List.nil_append] at hp'
            rw [List.mem_singleton.mp hp'] at q
            exact Or.inl q
        · exact Or.inr (n6 q)
      · obtain ⟨v1, v2⟩ := z14' z2 (show 1 ≤ 24 by decide)
        have eNL := n5 z3
        have hv : rd'.1 0 = ((vN (pL ([], G))).length : Int) := by
          obtain ⟨L, NL', VL, eL, -, -, hr, -, hxx, -⟩ := hI2
          have eL : L = pL ([], G) := (List.append_cancel_left eL).symm
          subst eL
          rw [e0', hr.2.2.2.2.1, (hxx (e5 z2)).1]
        rw [hv]
        refine hk _ _ _ _ _ (k2 + 1) _ hF hp hsh (by omega) ?_ tk' _ rc' _ ⟨?_, ?_, z3⟩ ?_ z2'
        · intro q
          rcases q with q | q
          · exact v1 _ (by rw [List.nil_append]; exact List.mem_singleton.mpr rfl) q
          · rw [← eNL] at q
            have := n3.2.1
            omega
        · rw [← eNL]; exact n3
        · rw [← eNL]; exact n3.1
        · rw [← eNL]
          exact v2 z3 [] ([], G) [] rfl
    · rw [z11'] at e
      refine wrong (k2 + 1) nm2 rc' rd' ⟨n, Or.inr ⟨k2, G, hg, Or.inr (Or.inl ⟨e46, e, rfl, rfl⟩)⟩⟩ z11' ⟨n1, n2, ⟨NL, t, n3, n4⟩, z9', by omega, by have := hkd.2.2.2.2; omega⟩
