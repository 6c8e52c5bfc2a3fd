/-! the pure part: the reference's reader outside the terms -/
def gN (Ps : List Part) : Nat := (Ps.map (fun p => p.2.length)).sum
theorem gN_snoc (Ps : List Part) (p : Part) : gN (Ps ++ [p]) = gN Ps + p.2.length := by
  unfold gN
  rw [List.map_append, List.sum_append, List.map_singleton, List.sum_singleton]
/-- where the goals begin -/
def RGo (a5 : Int → Int) (g0 b0 : Int) (Gs : List (List Sy)) : Prop := ∀ q : Nat, q < Gs.length → a5 (g0 + (q : Int)) = b0 + ((Gs.take q).flatten.length : Int)
def MPt (a1 : Int → Int) (l0 : Int → Nat) (a2 a3 a4 a5 : Int → Int) (i : Nat) (B g0 : Int) (p : Part) : Prop := a2 (i : Int) = B ∧ a3 (i : Int) = (p.2.length : Int) ∧ a4 (i : Int) = ((vM (pL p)).length : Int) ∧ (∀ j : Nat, j < (pL p).length → a1 (B + (j : Int)) = ((pL p).getD j (0, 0)).1 ∧ l0 (B + (j : Int)) = cM (pL p) j) ∧ RGo a5 g0 (B + (p.1.length : Int)) p.2
/-- the pieces that are read -/
def DP (Ps : List Part) (a1 : Int → Int) (l0 : Int → Nat) (a2 a3 a4 a5 : Int → Int) : Prop := ∀ (A : List Part) (p : Part) (C : List Part), Ps = A ++ p :: C → MPt a1 l0 a2 a3 a4 a5 A.length ((psL A).length : Int) (gN A : Int) p
theorem DP_eq {Ps : List Part} {a1 a1' : Int → Int} {l0 l0' : Int → Nat} {a2 a3 a4 a5 a2' a3' a4' a5' : Int → Int} (h : DP Ps a1 l0 a2 a3 a4 a5) (e1 : ∀ j, 0 ≤ j → j < ((psL Ps).length : Int) → a1' j = a1 j ∧ l0' j = l0 j) (e2 : ∀ j, 0 ≤ j → j < (Ps.length : Int) → a2' j = a2 j ∧ a3' j = a3 j ∧ a4' j = a4 j) (e5 : ∀ j, 0 ≤ j → j < (gN Ps : Int) → a5' j = a5 j) : DP Ps a1' l0' a2' a3' a4' a5' := by
  intro A p C hA
  obtain ⟨p1, p2, p3, p4, p5⟩ := h A p C hA
  have hlen : A.length < Ps.length := by rw [hA, List.length_append, List.length_cons]; omega
  have hps : (psL Ps).length = (psL A).length + ((pL p).length + (psL C).length) := by rw [hA, psL_app, psL_cons, List.length_append, List.length_append]
  have hg : gN A + p.2.length ≤ gN Ps := by
    rw [hA]
    unfold gN
    rw [List.map_append, List.sum_append, List.map_cons, List.sum_cons]
    omega
  have z2 := e2 (A.length : Int) (by omega) (by omega)
  refine ⟨z2.1.trans p1, z2.2.1.trans p2, z2.2.2.trans p3, fun j hj => ?_, fun q hq => ?_⟩
  · have := e1 (((psL A).length : Int) + (j : Int)) (by omega) (by omega)
    rw [this.1, this.2]
    exact p4 j hj
  · rw [e5 ((gN A : Int) + (q : Int)) (by omega) (by omega)]
    exact p5 q hq
theorem DP_snoc {Ps : List Part} {p : Part} {a1 : Int → Int} {l0 : Int → Nat} {a2 a3 a4 a5 : Int → Int} (h : DP Ps a1 l0 a2 a3 a4 a5) (hp : MPt a1 l0 a2 a3 a4 a5 Ps.length ((psL Ps).length : Int) (gN Ps : Int) p) : DP (Ps ++ [p]) a1 l0 a2 a3 a4 a5 := by
  intro A q C hA
  rcases List.eq_nil_or_concat C with hC | ⟨C', c, hC⟩
  · subst hC
    have := List.append_inj' hA rfl
    have e2 : p = q := by have := this.2; injection this
    rw [← this.1, ← e2]
    exact hp
  · subst hC
    rw [List.concat_eq_append, ← List.cons_append, ← List.append_assoc] at hA
    have := List.append_inj' hA rfl
    exact h A q C' this.1
theorem PT_lt {kE : Int → Int} {wE : Int → Nat} (hw : ∀ x, 0 ≤ x → kE x = 97 → wE x ≠ 1 ∧ wE x ≠ 2) {d : Nat} {o k k' : Int} {S : List Sy} (h : PT kE wE d o k k' true S) (e : kE k = 97) (hk : 0 ≤ k) : k + 1 ≤ k' := by
  cases d with
  | zero => exact absurd h id
  | succ d =>
    rcases h with ⟨z, -⟩ | ⟨-, -, -, z, -⟩ | ⟨-, -, -, z, -⟩ | ⟨-, -, -, n, a, S', z, -⟩ | ⟨z, -⟩ | ⟨z, -⟩ | ⟨z, -⟩ | ⟨-, z, -⟩
    · omega
    · omega
    · exact absurd z (by decide)
    · have := (PArg_ok (PT_ok hw d (o + 1)) n _ _ _ _ _ (by omega) z).1
      omega
    · omega
    · omega
    · omega
    · exact absurd e z
section MOU
variable {t : Int → Int} {n0 : Int} {kE : Int → Int} {wE : Int → Nat} {pl en : Int → Int} {N b : Int} {aF : Int → Int} {cF : Int → Nat} {x1 x2 k k' : Int} {K : Int → Ob → Prop}
/-- a term outside, behind its name -/
theorem ot_M (hF : TF t n0 kE wE pl en N) {ok : Bool} {S L : List Sy} {m : Ob} {d : Nat} (hp : PT kE wE d 0 k k' ok S) (e97 : kE k = 97) (hk : 0 ≤ k) (hkN : k < N) (hS : STm t n0 en N b aF cF (k + 1) (L ++ [(0, wE k)]) m) (h8 : m.1 8 = 0) (h9 : m.1 9 = 0) (hok : ok = true → CO t n0 kE en N b aF cF x1 x2 0 k' (L ++ S) m K) (hno : ok = false → CF pl k' m K) : MR x1 x2 1 0 (k + 1) m K := by
  have hN := TF_N hF
  cases d with
  | zero => exact absurd hp id
  | succ d =>
    rcases hp with ⟨e, -⟩ | ⟨-, e40, rfl, rfl, rfl⟩ | ⟨-, -, ho, -⟩ | ⟨-, e40, ho, n, a, S', hp1, rfl⟩ | ⟨e, -⟩ | ⟨e, -⟩ | ⟨e, -⟩ | ⟨-, e, -⟩
    · omega
    · exact hok rfl m 1 hS h8 h9 (tfr_refl m) (tlow_refl _ m) (Or.inr e40)
    · omega
    · have hlt2 := (TKF_kd hF.1).2.1 (k + 1) (by omega) (by omega)
      obtain ⟨u1, u2, u3, u4, u5, u6, u7⟩ := hS
      have hu := u3.1
      have hb : 0 ≤ b := u3.2.2.2.2.2.2
      refine mr_open hF u1 u2 (by omega) hlt2 h8 ⟨by omega, by omega⟩ (by omega) (by omega) e40 (fun m4 h4 => ⟨fun z => by omega, fun _ => ?_⟩)
      obtain ⟨ht4, -, -, hpl4, haf4⟩ := h4
      have f5 : tfr m (sI (sA (sA (sA m4 7 0 0) 8 0 (m4.1 4 - 1)) 9 0 1) 8 (0 + 1)) := tfr_trans (tfr_tk ht4) (tfr_trans (tfr_A7 _ _ _) (tfr_trans (tfr_A8 _ _ _) (tfr_trans (tfr_A9 _ _ _) (tfr_8 _ _))))
      have l5 : tlow 0 m (sI (sA (sA (sA m4 7 0 0) 8 0 (m4.1 4 - 1)) 9 0 1) 8 (0 + 1)) := tlow_trans (tlow_tk ht4) (tlow_trans (tlow_A7 _ _ _) (tlow_trans (tlow_A8 _ _ _) (tlow_trans (tlow_A9 _ _ _) (tlow_I _ _ _ _))))
      have e2 : k + 1 + 1 = k + 2 := by omega
      rw [e2]
      rw [e2] at haf4
      have hu4 : m4.1 4 = m.1 4 := ht4.1 4 (by decide) (by decide) (by decide)
      have hu5 := u4
      rw [List.length_append, List.length_singleton] at hu hu5
      refine ag_M hF (tm_M hF d) (o := 0) ⟨by omega, by omega⟩ (E0 := L) (w := wE k) n (k + 2) k' ok a S' hp1 [] 0 _ ⟨TxM_tfr u1 f5, haf4 (by omega), MP_eq (MP_tk u3 ht4) rfl rfl rfl rfl rfl rfl, by omega, by omega, by omega, by omega⟩ rfl ?_ ?_ ?_ ?_ (by omega) (fun z => ?_) (fun z => CF_pre (hno z) f5)
      · exact (ht4.1 9 (by decide) (by decide) (by decide)).trans h9
      · rfl
      · show m4.1 4 - 1 = _
        omega
      · rfl
      · have := CO_pre (hok z) f5 l5
        rw [Nat.zero_add, List.nil_append]
        exact this
    · omega
    · omega
    · omega
    · exact absurd e97 e
/-- outside, inside a piece -/
def OI (b i g0 : Int) (H : List Sy) (Gs : List (List Sy)) (k : Int) (m : Ob) : Prop := m.1 5 = i ∧ m.2.1 2 i = b ∧ m.2.1 3 i = (Gs.length : Int) ∧ m.1 6 = g0 + (Gs.length : Int) ∧ g0 + (Gs.length : Int) ≤ k ∧ RGo (m.2.1 5) g0 (b + (H.length : Int)) Gs ∧ m.1 8 = 0 ∧ m.1 9 = 0 ∧ 0 ≤ i ∧ i ≤ k ∧ 0 ≤ g0
def ofr (i g0 : Int) (m m' : Ob) : Prop := (∀ j, j = 0 ∨ j = 5 ∨ 10 ≤ j → m'.1 j = m.1 j) ∧ (∀ j, j = 0 ∨ 10 ≤ j → m'.2.1 j = m.2.1 j) ∧ (∀ j, 2 ≤ j → m'.2.2.2 j = m.2.2.2 j) ∧ (∀ j, j < i → m'.2.1 2 j = m.2.1 2 j ∧ m'.2.1 3 j = m.2.1 3 j ∧ m'.2.1 4 j = m.2.1 4 j) ∧ (∀ j, j < g0 → m'.2.1 5 j = m.2.1 5 j)
theorem ofr_trans {i g0 : Int} {a c d : Ob} (h : ofr i g0 a c) (g : ofr i g0 c d) : ofr i g0 a d := ⟨fun j z => (g.1 j z).trans (h.1 j z), fun j z => (g.2.1 j z).trans (h.2.1 j z), fun j z => (g.2.2.1 j z).trans (h.2.2.1 j z), fun j z => ⟨(g.2.2.2.1 j z).1.trans (h.2.2.2.1 j z).1, (g.2.2.2.1 j z).2.1.trans (h.2.2.2.1 j z).2.1, (g.2.2.2.1 j z).2.2.trans (h.2.2.2.1 j z).2.2⟩, fun j z => (g.2.2.2.2 j z).trans (h.2.2.2.2 j z)⟩
theorem ofr_tfr {i g0 : Int} {m m' : Ob} (h : tfr m m') : ofr i g0 m m' := ⟨fun j z => h.1 j (by omega) (by omega) (by omega) (by omega) (by omega) (by omega) (by omega), fun j z => h.2.1 j (by omega) (by omega) (by omega) (by omega) (by omega), fun j z => h.2.2 j (by omega) (by omega), fun j _ => by rw [h.2.1 2 (by decide) (by decide) (by decide) (by decide) (by decide), h.2.1 3 (by decide) (by decide) (by decide) (by decide) (by decide), h.2.1 4 (by decide) (by decide) (by decide) (by decide) (by decide)]; exact ⟨rfl, rfl, rfl⟩, fun j _ => by rw [h.2.1 5 (by decide) (by decide) (by decide) (by decide) (by decide)]⟩
theorem ofr_rfr {i g0 : Int} {m m' : Ob} (h : ofr i g0 m m') : rfr m m' := ⟨fun j z => h.1 j (by omega), h.2.1, h.2.2.1⟩
theorem OI_tfr {i g0 : Int} {H : List Sy} {Gs : List (List Sy)} {m m' : Ob} (h : OI b i g0 H Gs k m) (f : tfr m m') (e8 : m'.1 8 = 0) (e9 : m'.1 9 = 0) (hk : k ≤ k') : OI b i g0 H Gs k' m' := by
  obtain ⟨h1, h2, h3, h4, h5, h6, h7, h8, h9, h10, h11⟩ := h
  refine ⟨(f.1 5 (by decide) (by decide) (by decide) (by decide) (by decide) (by decide) (by decide)).trans h1, ?_, ?_, (f.1 6 (by decide) (by decide) (by decide) (by decide) (by decide) (by decide) (by decide)).trans h4, by omega, ?_, e8, e9, h9, by omega, h11⟩
  · rw [f.2.1 2 (by decide) (by decide) (by decide) (by decide) (by decide)]; exact h2
  · rw [f.2.1 3 (by decide) (by decide) (by decide) (by decide) (by decide)]; exact h3
  · rw [f.2.1 5 (by decide) (by decide) (by decide) (by decide) (by decide)]; exact h6
/-- the text ends outside, where it must not -/
theorem mr_endout (hF : TF t n0 kE wE pl en N) {m : Ob} {x3 x4 : Int} (hx : TxM t n0 m) (ha : m.1 3 = eb en N) (h8 : m.1 8 = 0) (h20 : x2 ≠ 0) (h24 : x2 ≠ 4) (hK : CF pl N m K) : MR x1 x2 x3 x4 N m K := by
  refine mr_end hF hx ha (fun m' q => ?_)
  have e : m'.1 0 = pl N := ((q.1 0 (by decide) (by decide) (by decide)).trans hx.2).trans hF.1.2.2.1.symm
  have hh : M_read_91 m' K := by
    show K (m'.1 0) m'
    rw [e]
    exact hK m' (rfr_tfr (tfr_tk q))
  exact ⟨fun _ => hh, fun _ => ⟨fun z => absurd z h20, fun _ => ⟨fun _ => hh, fun z => absurd z h24⟩⟩⟩
theorem RGo_snoc {a5 : Int → Int} {g0 b0 : Int} {Gs : List (List Sy)} {v : Int} (G : List Sy) (h : RGo a5 g0 b0 Gs) (hv : v = b0 + (Gs.flatten.length : Int)) : RGo (updI a5 (g0 + (Gs.length : Int)) v) g0 b0 (Gs ++ [G]) := by
  intro q hq
  rw [List.length_append, List.length_singleton] at hq
  unfold updI
  by_cases e : q = Gs.length
  · subst e
    rw [if_pos rfl, List.take_append_of_le_length (Nat.le_refl _), List.take_length]
    exact hv
  · rw [if_neg (by omega), List.take_append_of_le_length (by omega)]
    exact h q (by omega)
/-- a goal is begun -/
theorem we_goal {i g0 : Int} {H : List Sy} {Gs : List (List Sy)} {m : Ob} {Q : Ob → Prop} (hI : OI b i g0 H Gs k m) (hM : MP b aF cF (H ++ Gs.flatten) m) (hk : k < 240) (hQ : ∀ m', MP b aF cF (H ++ Gs.flatten) m' → ofr i g0 m m' → (∀ j, j ≠ 6 → m'.1 j = m.1 j) → m'.2.2.1 = m.2.2.1 → m'.2.1 0 = m.2.1 0 → (∀ G : List Sy, OI b i g0 H (Gs ++ [G]) (k + 1) m') → Q m') : wp_M_beginGoal m Q := by
  obtain ⟨h1, h2, h3, h4, h5, h6, h7, h8, h9, h10, h11⟩ := hI
  have e4 := hM.1
  have hl : (H ++ Gs.flatten).length = H.length + Gs.flatten.length := List.length_append
  refine ⟨⟨by omega, by omega⟩, ⟨by omega, by omega⟩, ⟨by omega, by omega⟩, ⟨by rw [h1, h3]; omega, by rw [h1, h3]; omega⟩, ⟨by omega, by omega⟩, ?_⟩
  rw [h1, h3, h4]
  refine hQ _ (MP_eq hM rfl rfl rfl rfl rfl rfl) ⟨fun j z => if_neg (by omega), fun j z => ?_, fun _ _ => rfl, fun j hj => ⟨rfl, if_neg (by omega), rfl⟩, fun j hj => if_neg (by omega)⟩ (fun j z => if_neg z) rfl rfl (fun G => ?_)
  · show (if j = 3 then _ else if j = 5 then _ else m.2.1 j) = m.2.1 j
    rw [if_neg (by omega), if_neg (by omega)]
  · refine ⟨h1, h2, ?_, ?_, ?_, ?_, h7, h8, h9, by omega, h11⟩
    · show (if i = i then (Gs.length : Int) + 1 else _) = _
      rw [if_pos rfl, List.length_append, List.length_singleton]; omega
    · show g0 + (Gs.length : Int) + 1 = _
      rw [List.length_append, List.length_singleton]; omega
    · rw [List.length_append, List.length_singleton]; omega
    · exact RGo_snoc G h6 (by omega)
/-- goals, from token k on -/
theorem pg_M (hF : TF t n0 kE wE pl en N) {i g0 : Int} {H : List Sy} : ∀ (n : Nat) (k k' : Int) (ok : Bool) (G : List (List Sy)), PGo kE wE n k k' ok G → ∀ (Gs : List (List Sy)) (m : Ob), STm t n0 en N b aF cF k (H ++ Gs.flatten) m → OI b i g0 H Gs k m → (ok = true → ∀ m' x3', STm t n0 en N b aF cF k' (H ++ (Gs ++ G).flatten) m' → OI b i g0 H (Gs ++ G) k' m' → ofr i g0 m m' → (x3' = 0 ∨ kE k' ≠ 40) → kE k' ≠ 44 → MR x1 3 x3' 0 k' m' K) → (ok = false → CF pl k' m K) → MR x1 2 0 0 k m K := by
  intro n
  induction n with
  | zero => intro k k' ok G z; exact absurd z id
  | succ n ih =>
    intro k k' ok G hp Gs m hS hI hok hno
    have hN := TF_N hF
    have hS0 := hS
    obtain ⟨s1, s2, s3, s4, s5, s6, s7⟩ := hS
    have h8 : m.1 8 = 0 := hI.2.2.2.2.2.2.1
    have h32 := hF.1.2.1
    by_cases hkN : k = N
    · have e32 : kE k = 32 := h32 k (by omega)
      rcases hp with ⟨e, -⟩ | ⟨e, -⟩ | ⟨e, -⟩ | ⟨e, -⟩ | ⟨e, -⟩ | ⟨-, -, rfl, rfl⟩
      · omega
      · omega
      · omega
      · omega
      · omega
      · subst hkN
        exact mr_endout hF s1 s2 h8 (by decide) (by decide) (hno rfl)
    · have hlt : k < N := by omega
      have hkd := (TKF_kd hF.1).1 k s6 hlt
      refine mr_out hF s1 s2 s6 hlt h8 (Or.inl rfl) (fun m' hk' Q q0 q1 => ?_)
      obtain ⟨ht, hw, htok, hpl, haf⟩ := hk'
      have f1 := tfr_tk ht
      have hI' : OI b i g0 H Gs k m' := OI_tfr hI f1 ((ht.1 8 (by decide) (by decide) (by decide)).trans h8) ((ht.1 9 (by decide) (by decide) (by decide)).trans hI.2.2.2.2.2.2.2.1) (Int.le_refl _)
      have hM' := MP_tk s3 ht
      -- behind a goal
      have next : ∀ (k1 : Int) (G1 : List Sy), (kE k1 ≠ 44 → ok = true ∧ k' = k1 ∧ G = [G1]) → (kE k1 = 44 → ∃ G2, PGo kE wE n (k1 + 1) k' ok G2 ∧ G = G1 :: G2) → ∀ m1 x3', STm t n0 en N b aF cF k1 (H ++ (Gs ++ [G1]).flatten) m1 → OI b i g0 H (Gs ++ [G1]) k1 m1 → ofr i g0 m m1 → (x3' = 0 ∨ kE k1 ≠ 40) → MR x1 3 x3' 0 k1 m1 K := fun k1 G1 c1 c2 m1 x3' r1 r2 r3 r4 => by
        by_cases e44 : kE k1 = 44
        · obtain ⟨G2, hp2, rfl⟩ := c2 e44
          obtain ⟨u1, u2, u3, u4, u5, u6, u7⟩ := r1
          have hlt2 := (TKF_kd hF.1).2.1 k1 u6 (by omega)
          have h81 : m1.1 8 = 0 := r2.2.2.2.2.2.2.1
          refine mr_out hF u1 u2 u6 hlt2 h81 r4 (fun m2 hk2 Q2 p0 p1 => ?_)
          obtain ⟨ht2, hw2, htok2, hpl2, haf2⟩ := hk2
          have et : m2.1 1 = 44 := htok2.trans ((tc_sg ((TKF_kd hF.1).1 k1 u6 hlt2) (by unfold sign8; omega)).mpr e44)
          have fin : Q2 2 m2 := p1 2 m2 (by decide) (fun z => by omega) (fun _ => by
            refine ih (k1 + 1) k' ok G2 hp2 (Gs ++ [G1]) m2 ⟨TxM_tk u1 ht2, haf2 (by omega), MP_tk u3 ht2, by omega, by omega, by omega, by omega⟩ (OI_tfr r2 (tfr_tk ht2) ((ht2.1 8 (by decide) (by decide) (by decide)).trans h81) ((ht2.1 9 (by decide) (by decide) (by decide)).trans r2.2.2.2.2.2.2.2.1) (by omega)) (fun z m3 x3'' v1 v2 v3 v4 v5 => ?_) (fun z m3 q => hno z m3 (rfr_trans (ofr_rfr r3) (rfr_trans (rfr_tfr (tfr_tk ht2)) q)))
            rw [List.append_assoc, List.singleton_append] at v1 v2
            exact hok z m3 x3'' v1 v2 (ofr_trans r3 (ofr_trans (ofr_tfr (tfr_tk ht2)) v3)) v4 v5)
          exact ⟨fun z => absurd z (by decide), fun _ => ⟨fun _ => ⟨fun _ => ⟨fun _ => ⟨fun z => absurd rfl z, fun _ => ⟨fun z => absurd et z, fun _ => fin⟩⟩, fun z => absurd z (by decide)⟩, fun z => absurd z (by decide)⟩, fun z => absurd z (by decide)⟩⟩
        · obtain ⟨rfl, rfl, rfl⟩ := c1 e44
          exact hok rfl m1 x3' r1 r2 r3 r4 e44
      have efl : ∀ G1 : List Sy, H ++ (Gs ++ [G1]).flatten = H ++ Gs.flatten ++ G1 := fun G1 => by rw [List.flatten_append, List.flatten_cons, List.flatten_nil, List.append_nil, List.append_assoc]
      have cut : kE k = 33 → (kE (k + 1) ≠ 44 → ok = true ∧ k' = k + 1 ∧ G = [[(-2, 0)]]) → (kE (k + 1) = 44 → ∃ G2, PGo kE wE n (k + 1 + 1) k' ok G2 ∧ G = [(-2, 0)] :: G2) → wp_M_outside 2 x1 m' Q := fun e33 c1 c2 => by
        have et : m'.1 1 = 33 := htok.trans ((tc_sg hkd (by unfold sign8; omega)).mpr e33)
        have fin : wp_M_beginGoal m' (fun m_2 => wp_M_emit 0 (-2) m_2 (fun m_3 => Q 3 m_3)) := by
          refine we_goal hI' hM' (by omega) (fun m2 v1 v2 v3 v4 v6 v5 => ?_)
          refine we_emit v1 (by omega) (by decide) (fun m3 w1 w2 => q1 3 m3 (by decide) (fun z => ?_) (fun _ => ?_))
          · have := (w2.1 1 (by decide) (by decide)).trans (v3 1 (by decide))
            omega
          · have hO : OI b i g0 H (Gs ++ [[(-2, 0)]]) (k + 1) m3 := OI_tfr (v5 [(-2, 0)]) (tfr_em w2) ((w2.1 8 (by decide) (by decide)).trans (v5 []).2.2.2.2.2.2.1) ((w2.1 9 (by decide) (by decide)).trans (v5 []).2.2.2.2.2.2.2.1) (Int.le_refl _)
            refine next (k + 1) [(-2, 0)] c1 c2 m3 0 ⟨⟨?_, ?_⟩, ?_, by rw [efl]; exact w1, ?_, ?_, by omega, by omega⟩ hO (ofr_trans (ofr_tfr f1) (ofr_trans v2 (ofr_tfr (tfr_em w2)))) (Or.inl rfl)
            · rw [w2.2.1 0 (by decide) (by decide), v6]; exact (TxM_tk s1 ht).1
            · exact (w2.1 0 (by decide) (by decide)).trans ((v3 0 (by decide)).trans (TxM_tk s1 ht).2)
            · exact (w2.1 3 (by decide) (by decide)).trans ((v3 3 (by decide)).trans (haf (by omega)))
            · rw [efl, List.length_append, List.length_singleton]; omega
            · rw [efl, vM_non (by decide)]; omega
        exact ⟨fun z => absurd z (by decide), fun _ => ⟨fun z => absurd rfl z, fun _ => ⟨fun _ => ⟨fun z => absurd rfl z, fun _ => ⟨fun z => absurd et z, fun _ => fin⟩⟩, fun z => by omega⟩⟩⟩
      have name : kE k = 97 → (∀ m3, STm t n0 en N b aF cF (k + 1) (H ++ Gs.flatten ++ [(0, wE k)]) m3 → (∀ G1 : List Sy, OI b i g0 H (Gs ++ [G1]) (k + 1) m3) → ofr i g0 m m3 → MR x1 3 1 0 (k + 1) m3 K) → wp_M_outside 2 x1 m' Q := fun e97 hc => by
        have et : m'.1 1 = 1 := htok.trans ((tc_1 hkd).mpr e97)
        have fin : wp_M_beginGoal m' (fun m_4 => M_outside_32 2 m_4 Q) := by
          refine we_goal hI' hM' (by omega) (fun m2 v1 v2 v3 v4 v6 v5 => ?_)
          have ew : m2.2.2.1 0 = wE k := by rw [v4]; exact hw (Or.inl e97)
          unfold M_outside_32
          rw [ew]
          refine we_emit v1 (by omega) (by decide) (fun m3 w1 w2 => ⟨⟨by decide, by decide⟩, q1 3 m3 (by decide) (fun _ => ?_) (fun z => ?_)⟩)
          · refine hc m3 ⟨⟨?_, ?_⟩, ?_, w1, ?_, ?_, by omega, by omega⟩ (fun G1 => OI_tfr (v5 G1) (tfr_em w2) ((w2.1 8 (by decide) (by decide)).trans (v5 []).2.2.2.2.2.2.1) ((w2.1 9 (by decide) (by decide)).trans (v5 []).2.2.2.2.2.2.2.1) (Int.le_refl _)) (ofr_trans (ofr_tfr f1) (ofr_trans v2 (ofr_tfr (tfr_em w2))))
            · rw [w2.2.1 0 (by decide) (by decide), v6]; exact (TxM_tk s1 ht).1
            · exact (w2.1 0 (by decide) (by decide)).trans ((v3 0 (by decide)).trans (TxM_tk s1 ht).2)
            · exact (w2.1 3 (by decide) (by decide)).trans ((v3 3 (by decide)).trans (haf (by omega)))
            · rw [List.length_append, List.length_singleton]; omega
            · rw [vM_non (show (0 : Int) ≠ -1 by decide)]; omega
          · exact absurd ((w2.1 1 (by decide) (by decide)).trans ((v3 1 (by decide)).trans et)) z
        exact ⟨fun z => absurd z (by decide), fun _ => ⟨fun z => absurd rfl z, fun _ => ⟨fun z => absurd et z, fun _ => ⟨fun _ => fin, fun z => absurd z (by decide)⟩⟩⟩⟩
      rcases hp with ⟨e33, e44, rfl, rfl, rfl⟩ | ⟨e33, e44, G2, hp2, rfl⟩ | ⟨e97, k1, S1, hp1, e44, rfl, rfl, rfl⟩ | ⟨e97, k1, S1, G2, hp1, e44, hp2, rfl⟩ | ⟨e97, S1, hp1, rfl⟩ | ⟨e33, e97, rfl, rfl⟩
      · exact cut e33 (fun _ => ⟨rfl, rfl, rfl⟩) (fun z => absurd z e44)
      · exact cut e33 (fun z => absurd e44 z) (fun _ => ⟨G2, by rw [show k + 1 + 1 = k + 2 by omega]; exact hp2, rfl⟩)
      · refine name e97 (fun m3 r1 r2 r3 => ot_M hF hp1 e97 s6 hlt r1 (r2 []).2.2.2.2.2.2.1 (r2 []).2.2.2.2.2.2.2.1 (fun _ m4 x3' v1 v2 v3 v4 v5 v6 => ?_) (fun z => by cases z))
        rw [← efl] at v1
        exact next _ S1 (fun _ => ⟨rfl, rfl, rfl⟩) (fun z => absurd z e44) m4 x3' v1 (OI_tfr (r2 S1) v4 v2 v3 (PT_lt (TKF_kd hF.1).2.2.1 hp1 e97 s6)) (ofr_trans r3 (ofr_tfr v4)) v6
      · refine name e97 (fun m3 r1 r2 r3 => ot_M hF hp1 e97 s6 hlt r1 (r2 []).2.2.2.2.2.2.1 (r2 []).2.2.2.2.2.2.2.1 (fun _ m4 x3' v1 v2 v3 v4 v5 v6 => ?_) (fun z => by cases z))
        rw [← efl] at v1
        exact next _ S1 (fun z => absurd e44 z) (fun _ => ⟨G2, hp2, rfl⟩) m4 x3' v1 (OI_tfr (r2 S1) v4 v2 v3 (PT_lt (TKF_kd hF.1).2.2.1 hp1 e97 s6)) (ofr_trans r3 (ofr_tfr v4)) v6
      · exact name e97 (fun m3 r1 r2 r3 => ot_M hF hp1 e97 s6 hlt r1 (r2 []).2.2.2.2.2.2.1 (r2 []).2.2.2.2.2.2.2.1 (fun z => by cases z) (fun _ m4 q => hno rfl m4 (rfr_trans (ofr_rfr r3) q)))
      · have t1 : m'.1 1 ≠ 1 := fun z => e97 ((tc_1 hkd).mp (htok.symm.trans z))
        have t2 : m'.1 1 ≠ 33 := fun z => e33 ((tc_sg hkd (by unfold sign8; omega)).mp (htok.symm.trans z))
        have fin : Q (-1) m' := q0 m' (by rw [hpl]; exact hno rfl m' (rfr_tfr f1))
        have B : M_outside_72 2 x1 m' Q := ⟨fun _ => ⟨fun _ => ⟨fun z => absurd z (by decide), fun _ => ⟨fun _ => fin, fun z => absurd z (by decide)⟩⟩, fun z => absurd z (by decide)⟩, fun z => absurd z (by decide)⟩
        exact ⟨fun z => absurd z (by decide), fun _ => ⟨fun z => absurd rfl z, fun _ => ⟨fun _ => ⟨fun z => absurd rfl z, fun _ => ⟨fun _ => B, fun z => absurd z t2⟩⟩, fun z => absurd z t1⟩⟩⟩
end MOU
