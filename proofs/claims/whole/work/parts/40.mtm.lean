/-! the pure part: the reference's reader goes along a term -/
def STm (t : Int → Int) (n0 : Int) (en : Int → Int) (N b : Int) (aF : Int → Int) (cF : Int → Nat) (k : Int) (L : List Sy) (m : Ob) : Prop := TxM t n0 m ∧ m.1 3 = eb en k ∧ MP b aF cF L m ∧ b + (L.length : Int) ≤ 2 * k ∧ ((vM L).length : Int) ≤ k ∧ 0 ≤ k ∧ k ≤ N
theorem vM_snoc_le (L : List Sy) (x : Sy) : (vM (L ++ [x])).length ≤ (vM L).length + 1 := by
  rw [vM_snoc]
  unfold vmS
  split
  · rw [List.length_append, List.length_singleton]; omega
  · omega
def CO (t : Int → Int) (n0 : Int) (kE : Int → Int) (en : Int → Int) (N b : Int) (aF : Int → Int) (cF : Int → Nat) (x1 x2 o k' : Int) (L' : List Sy) (m : Ob) (K : Int → Ob → Prop) : Prop := ∀ (m' : Ob) (x3' : Int), STm t n0 en N b aF cF k' L' m' → m'.1 8 = o → m'.1 9 = 0 → tfr m m' → tlow o m m' → (x3' = 0 ∨ kE k' ≠ 40) → MR x1 x2 x3' 0 k' m' K
def CF (pl : Int → Int) (k' : Int) (m : Ob) (K : Int → Ob → Prop) : Prop := ∀ m', rfr m m' → K (pl k') m'
section MTM
variable {t : Int → Int} {n0 : Int} {kE : Int → Int} {wE : Int → Nat} {pl en : Int → Int} {N b : Int} {aF : Int → Int} {cF : Int → Nat} {x1 x2 o k k' : Int} {K : Int → Ob → Prop}
theorem CO_pre {L' : List Sy} {m m1 : Ob} (h : CO t n0 kE en N b aF cF x1 x2 o k' L' m K) (f : tfr m m1) (l : tlow o m m1) : CO t n0 kE en N b aF cF x1 x2 o k' L' m1 K := fun m' x3' q1 q2 q3 q4 q5 q6 => h m' x3' q1 q2 q3 (tfr_trans f q4) (tlow_trans l q5) q6
theorem CF_pre {m m1 : Ob} (h : CF pl k' m K) (f : tfr m m1) : CF pl k' m1 K := fun m' q => h m' (rfr_trans (rfr_tfr f) q)
theorem MP_tk {L : List Sy} {m m' : Ob} (h : MP b aF cF L m) (q : tkEq m m') : MP b aF cF L m' := MP_eq h (q.1 4 (by decide) (by decide) (by decide)) (q.1 7 (by decide) (by decide) (by decide)) (by rw [q.2.1]) (by rw [q.2.1]) (by rw [q.2.2]) (by rw [q.2.2])
theorem TxM_tk {m m' : Ob} (h : TxM t n0 m) (q : tkEq m m') : TxM t n0 m' := ⟨by rw [q.2.1]; exact h.1, (q.1 0 (by decide) (by decide) (by decide)).trans h.2⟩
theorem TxM_tfr {m m' : Ob} (h : TxM t n0 m) (q : tfr m m') : TxM t n0 m' := ⟨(q.2.1 0 (by decide) (by decide) (by decide) (by decide) (by decide)).trans h.1, (q.1 0 (by decide) (by decide) (by decide) (by decide) (by decide) (by decide) (by decide)).trans h.2⟩
/-- the text ends inside -/
theorem mr_endin (hF : TF t n0 kE wE pl en N) {L : List Sy} {m : Ob} {x3 x4 : Int} (hS : STm t n0 en N b aF cF N L m) (h8 : m.1 8 = o) (ho : 1 ≤ o) (hK : CF pl N m K) : MR x1 x2 x3 x4 N m K := by
  refine mr_end hF hS.1 hS.2.1 (fun m' q => ⟨fun _ => ?_, fun z => ?_⟩)
  · have e : m'.1 0 = pl N := ((q.1 0 (by decide) (by decide) (by decide)).trans hS.1.2).trans hF.1.2.2.1.symm
    show K (m'.1 0) m'
    rw [e]
    exact hK m' (rfr_tfr (tfr_tk q))
  · have := q.1 8 (by decide) (by decide) (by decide)
    omega
/-- the first symbol of a term that is awaited -/
theorem bt_go {L pre : List Sy} {m : Ob} {Q : Int → Ob → Prop} (hM : MP b aF cF L m) (hl : b + (L.length : Int) < 499) (h8 : m.1 8 = o) (ho : 1 ≤ o ∧ o ≤ 15) (h9 : m.1 9 = 0 ∨ m.1 9 = 1) (hpre : (m.2.1 7 (o - 1) = 1 ∧ m.1 9 = 1 ∧ pre = [(2, 1)]) ∨ (¬ (m.2.1 7 (o - 1) = 1 ∧ m.1 9 = 1) ∧ pre = [])) (ht : m.1 1 = 1 ∨ m.1 1 = 2 ∨ m.1 1 = 91) (h : ∀ m2, MP b aF cF (L ++ pre) m2 → emf m m2 → M_beginTerm_55 m2 Q) : wp_M_beginTerm m Q := by
  have B : M_beginTerm_27 m Q := by
    unfold M_beginTerm_27
    rw [h8]
    refine ⟨⟨by omega, by omega⟩, ⟨by omega, by omega⟩, ?_⟩
    rcases hpre with ⟨a, c, e⟩ | ⟨a, e⟩
    · refine ⟨fun z => absurd a z, fun _ => ⟨fun z => by omega, fun _ => ?_⟩⟩
      subst e
      exact we_emit hM (by omega) (by decide) (fun m' q1 q2 => h m' q1 q2)
    · subst e
      have hh : M_beginTerm_55 m Q := h m (by rw [List.append_nil]; exact hM) ⟨fun _ _ _ => rfl, fun _ _ _ => rfl, rfl, fun _ _ _ => rfl⟩
      exact ⟨fun _ => hh, fun z => ⟨fun _ => hh, fun z2 => absurd ⟨z, by omega⟩ a⟩⟩
  refine ⟨fun _ => B, fun z1 => ⟨fun _ => B, fun z2 => ⟨fun _ => B, fun z3 => ?_⟩⟩⟩
  omega
theorem pre_len {m : Ob} {pre : List Sy} {P Q : Prop} (h : (P ∧ Q ∧ pre = [((2 : Int), 1)]) ∨ (¬ (P ∧ Q) ∧ pre = [])) : pre.length ≤ 1 ∧ ∀ L : List Sy, vM (L ++ pre) = vM L := by
  rcases h with ⟨-, -, e⟩ | ⟨-, e⟩
  · subst e
    exact ⟨Nat.le_refl _, fun L => vM_non (by decide)⟩
  · subst e
    exact ⟨Nat.zero_le _, fun L => by rw [List.append_nil]⟩
def TMd (t : Int → Int) (n0 : Int) (kE : Int → Int) (wE : Int → Nat) (pl en : Int → Int) (N b : Int) (aF : Int → Int) (cF : Int → Nat) (x1 x2 : Int) (K : Int → Ob → Prop) (d : Nat) : Prop := ∀ (o k k' : Int) (ok : Bool) (S : List Sy), PT kE wE d o k k' ok S → 1 ≤ o → o ≤ 15 → ∀ (x3 : Int) (L pre : List Sy) (m : Ob), STm t n0 en N b aF cF k L m → m.1 8 = o → (x3 = 0 ∨ kE k ≠ 40) → (m.1 9 = 0 ∨ m.1 9 = 1) → ¬ (kE k = 93 ∧ m.1 9 = 1 ∧ m.2.1 7 (o - 1) = 1 ∧ m.2.1 9 (o - 1) = 1) → ((m.2.1 7 (o - 1) = 1 ∧ m.1 9 = 1 ∧ pre = [(2, 1)]) ∨ (¬ (m.2.1 7 (o - 1) = 1 ∧ m.1 9 = 1) ∧ pre = [])) → (ok = true → CO t n0 kE en N b aF cF x1 x2 o k' (L ++ pre ++ S) m K) → (ok = false → CF pl k' m K) → MR x1 x2 x3 1 k m K
/-- arguments, from token k on -/
theorem ag_M (hF : TF t n0 kE wE pl en N) {d : Nat} (hT : TMd t n0 kE wE pl en N b aF cF x1 x2 K d) (ho : 0 ≤ o ∧ o < 15) {E0 : List Sy} {w : Nat} : ∀ (n : Nat) (k k' : Int) (ok : Bool) (a : Nat) (S : List Sy), PArg kE (PT kE wE d (o + 1)) n k k' ok a S → ∀ (S0 : List Sy) (c : Nat) (m : Ob), STm t n0 en N b aF cF k (E0 ++ (0, w) :: S0) m → m.1 8 = o + 1 → m.1 9 = 0 → m.2.1 7 o = 0 → m.2.1 8 o = b + (E0.length : Int) → m.2.1 9 o = (c : Int) + 1 → (c : Int) < k → (ok = true → CO t n0 kE en N b aF cF x1 x2 o k' (E0 ++ (((c + a : Nat) : Int), w) :: (S0 ++ S)) m K) → (ok = false → CF pl k' m K) → MR x1 x2 0 1 k m K := by
  intro n
  induction n with
  | zero => intro k k' ok a S z; exact absurd z id
  | succ n ih =>
    intro k k' ok a S hp S0 c m hS h8 h9 h7 h8o h9o hck hok hno
    have hN := TF_N hF
    have o1 : o + 1 - 1 = o := by omega
    have hnc : ¬ (kE k = 93 ∧ m.1 9 = 1 ∧ m.2.1 7 (o + 1 - 1) = 1 ∧ m.2.1 9 (o + 1 - 1) = 1) := fun z => by omega
    have hpre : (m.2.1 7 (o + 1 - 1) = 1 ∧ m.1 9 = 1 ∧ ([] : List Sy) = [(2, 1)]) ∨ (¬ (m.2.1 7 (o + 1 - 1) = 1 ∧ m.1 9 = 1) ∧ ([] : List Sy) = []) := Or.inr ⟨fun z => by omega, rfl⟩
    -- behind a good argument
    have good : ∀ (k1 : Int) (S1 : List Sy), PT kE wE d (o + 1) k k1 true S1 → k ≤ k1 → (∀ m1 x3', STm t n0 en N b aF cF k1 (E0 ++ (0, w) :: (S0 ++ S1)) m1 → m1.1 8 = o + 1 → m1.1 9 = 0 → m1.2.1 7 o = 0 → m1.2.1 8 o = b + (E0.length : Int) → m1.2.1 9 o = (c : Int) + 1 → tfr m m1 → tlow o m m1 → (x3' = 0 ∨ kE k1 ≠ 40) → MR x1 x2 x3' 0 k1 m1 K) → MR x1 x2 0 1 k m K := fun k1 S1 hp1 hkk hc => by
      refine hT (o + 1) k k1 true S1 hp1 (by omega) (by omega) 0 _ [] m hS h8 (Or.inl rfl) (Or.inl h9) hnc hpre (fun _ m1 x3' q1 q2 q3 q4 q5 q6 => ?_) (fun z => by cases z)
      have hl := q5 o (by omega)
      rw [List.append_nil, List.append_assoc, List.cons_append] at q1
      exact hc m1 x3' q1 q2 q3 (hl.1.trans h7) (hl.2.1.trans h8o) (hl.2.2.trans h9o) q4 (tlow_le q5 (by omega)) q6
    have hPN : ∀ (k1 : Int) (ok1 : Bool) (S1 : List Sy), PT kE wE d (o + 1) k k1 ok1 S1 → k ≤ k1 ∧ k1 ≤ N := fun k1 ok1 S1 hp1 => PT_N (TKF_kd hF.1).2.1 d (o + 1) k k1 ok1 S1 hS.2.2.2.2.2.1 hS.2.2.2.2.2.2 hp1
    rcases hp with ⟨hp1, rfl, rfl⟩ | ⟨k1, hp1, e44, rfl, hq⟩ | ⟨k1, S1, a', S2, hp1, e44, hp2, rfl, rfl⟩
    · exact hT (o + 1) k k' false S hp1 (by omega) (by omega) 0 _ [] m hS h8 (Or.inl rfl) (Or.inl h9) hnc hpre (fun z => by cases z) hno
    · have hkk := hPN k1 true S hp1
      refine good k1 S hp1 hkk.1 (fun m1 x3' r1 r2 r3 r4 r5 r6 r7 r8 r9 => ?_)
      obtain ⟨s1, s2, s3, s4, s5, s6, s7⟩ := r1
      have hlen : (E0 ++ ((0 : Int), w) :: (S0 ++ S)).length = E0.length + (S0 ++ S).length + 1 := by rw [List.length_append, List.length_cons]; omega
      have hb : 0 ≤ b := s3.2.2.2.2.2.2
      rcases hq with ⟨e41, rfl, rfl⟩ | ⟨e41, rfl, rfl⟩
      · have hlt := (TKF_kd hF.1).2.1 k1 s6 (by omega)
        refine mr_go hF s1 s2 s6 hlt r2 ⟨by omega, by omega⟩ r9 (fun m' hk' Q q0 q1 => ?_)
        obtain ⟨ht, hw, htok, hpl, haf⟩ := hk'
        have et : m'.1 1 = 41 := htok.trans ((tc_sg ((TKF_kd hF.1).1 k1 s6 hlt) (by unfold sign8; omega)).mpr e41)
        refine go_close (o := o) (r := b + (E0.length : Int)) (c := (c : Int) + 1) ((ht.1 8 (by decide) (by decide) (by decide)).trans r2) ho et (by rw [ht.2.1]; exact r4) (by rw [ht.2.1]; exact r5) ⟨by omega, by omega⟩ (by rw [ht.2.1]; exact r6) (q1 _ (fun z => ?_) (fun _ _ => ?_))
        · have z : m'.1 1 = 44 ∨ m'.1 1 = 124 := z
          omega
        · refine hok rfl _ 0 ⟨TxM_tfr (TxM_tk s1 ht) (tfr_trans (tfr_A1 _ _ _) (tfr_8 _ _)), haf (by omega), ?_, ?_, ?_, by omega, by omega⟩ rfl ?_ ?_ ?_ (Or.inl rfl)
          · have := MP_set (a := (c : Int) + 1) (by omega) (MP_tk s3 ht)
            rw [show ((c + 1 : Nat) : Int) = (c : Int) + 1 by omega]
            exact MP_eq this rfl rfl rfl rfl rfl rfl
          · have e : (E0 ++ (((c + 1 : Nat) : Int), w) :: (S0 ++ S)).length = E0.length + (S0 ++ S).length + 1 := by rw [List.length_append, List.length_cons]; omega
            rw [e]
            rw [hlen] at s4
            omega
          · rw [← vM_sk (set_sk E0 (S0 ++ S) w (a := 0) (by decide) (by omega))]
            omega
          · exact (ht.1 9 (by decide) (by decide) (by decide)).trans r3
          · exact tfr_trans (tfr_trans r7 (tfr_tk ht)) (tfr_trans (tfr_A1 _ _ _) (tfr_8 _ _))
          · exact tlow_trans (tlow_trans r8 (tlow_tk ht)) (tlow_trans (tlow_A1 _ _ _ _) (tlow_I _ _ _ _))
      · by_cases hkN : k' = N
        · subst hkN
          exact mr_endin hF ⟨s1, s2, s3, s4, s5, s6, s7⟩ r2 (by omega) (CF_pre (hno rfl) r7)
        · refine mr_go hF s1 s2 s6 (by omega) r2 ⟨by omega, by omega⟩ r9 (fun m' hk' Q q0 q1 => ?_)
          obtain ⟨ht, hw, htok, hpl, haf⟩ := hk'
          have hkd := (TKF_kd hF.1).1 k' s6 (by omega)
          refine go_bad (o := o) ((ht.1 8 (by decide) (by decide) (by decide)).trans r2) ho (Or.inl ⟨by rw [ht.2.1]; exact r4, fun z => ?_, fun z => ?_⟩) (q0 _ ?_)
          · exact e44 ((tc_sg hkd (by unfold sign8; omega)).mp (htok.symm.trans z))
          · exact e41 ((tc_sg hkd (by unfold sign8; omega)).mp (htok.symm.trans z))
          · rw [hpl]
            exact hno rfl m' (rfr_tfr (tfr_trans r7 (tfr_tk ht)))
    · have hkk := hPN k1 true S1 hp1
      refine good k1 S1 hp1 hkk.1 (fun m1 x3' r1 r2 r3 r4 r5 r6 r7 r8 r9 => ?_)
      obtain ⟨s1, s2, s3, s4, s5, s6, s7⟩ := r1
      have hlt := (TKF_kd hF.1).2.1 k1 s6 (by omega)
      refine mr_go hF s1 s2 s6 hlt r2 ⟨by omega, by omega⟩ r9 (fun m' hk' Q q0 q1 => ?_)
      obtain ⟨ht, hw, htok, hpl, haf⟩ := hk'
      have et : m'.1 1 = 44 := htok.trans ((tc_sg ((TKF_kd hF.1).1 k1 s6 hlt) (by unfold sign8; omega)).mpr e44)
      refine go_comma (o := o) (κ := 0) (c := (c : Int) + 1) ((ht.1 8 (by decide) (by decide) (by decide)).trans r2) ho et (by rw [ht.2.1]; exact r4) (Or.inl rfl) (by rw [ht.2.1]; exact r6) ⟨by omega, by omega⟩ (q1 _ (fun _ => ?_) (fun z => absurd et z))
      have f1 : tfr m (sI (sA m' 9 o ((c : Int) + 1 + 1)) 9 0) := tfr_trans (tfr_trans r7 (tfr_tk ht)) (tfr_trans (tfr_A9 _ _ _) (tfr_9 _ _))
      have l1 : tlow o m (sI (sA m' 9 o ((c : Int) + 1 + 1)) 9 0) := tlow_trans (tlow_trans r8 (tlow_tk ht)) (tlow_trans (tlow_A9 _ _ _) (tlow_I _ _ _ _))
      refine ih (k1 + 1) k' ok a' S2 hp2 (S0 ++ S1) (c + 1) _ ⟨TxM_tfr (TxM_tk s1 ht) (tfr_trans (tfr_A9 _ _ _) (tfr_9 _ _)), haf (by omega), MP_eq (MP_tk s3 ht) rfl rfl rfl rfl rfl rfl, by omega, by omega, by omega, by omega⟩ ((ht.1 8 (by decide) (by decide) (by decide)).trans r2) rfl ?_ ?_ ?_ (by omega) (fun z => ?_) (fun z => CF_pre (hno z) f1)
      · show m'.2.1 7 o = 0
        rw [ht.2.1]; exact r4
      · show m'.2.1 8 o = _
        rw [ht.2.1]; exact r5
      · show (if o = o then (c : Int) + 1 + 1 else _) = _
        rw [if_pos rfl]; omega
      · have := CO_pre (hok z) f1 l1
        rw [show c + 1 + a' = c + (a' + 1) by omega, List.append_assoc]
        exact this
/-- the elements of a list, from token k on -/
theorem lg_M (hF : TF t n0 kE wE pl en N) {d : Nat} (hT : TMd t n0 kE wE pl en N b aF cF x1 x2 K d) (ho : 0 ≤ o ∧ o < 15) : ∀ (n : Nat) (k k' : Int) (ok : Bool) (S : List Sy), PLst kE (PT kE wE d (o + 1)) n k k' ok S → ∀ (L : List Sy) (c : Int) (m : Ob), STm t n0 en N b aF cF k L m → m.1 8 = o + 1 → m.1 9 = 1 → m.2.1 7 o = 1 → m.2.1 9 o = c → 1 ≤ c → c ≤ k → ¬ (kE k = 93 ∧ c = 1) → (ok = true → CO t n0 kE en N b aF cF x1 x2 o k' (L ++ S) m K) → (ok = false → CF pl k' m K) → MR x1 x2 0 1 k m K := by
  intro n
  induction n with
  | zero => intro k k' ok S z; exact absurd z id
  | succ n ih =>
    intro k k' ok S hp L c m hS h8 h9 h7 h9o hc1 hck hnc0 hok hno
    have hN := TF_N hF
    have o1 : o + 1 - 1 = o := by omega
    have hnc : ¬ (kE k = 93 ∧ m.1 9 = 1 ∧ m.2.1 7 (o + 1 - 1) = 1 ∧ m.2.1 9 (o + 1 - 1) = 1) := fun z => hnc0 ⟨z.1, by have := z.2.2.2; rw [o1] at this; omega⟩
    have hpre : (m.2.1 7 (o + 1 - 1) = 1 ∧ m.1 9 = 1 ∧ ([((2 : Int), 1)] : List Sy) = [(2, 1)]) ∨ (¬ (m.2.1 7 (o + 1 - 1) = 1 ∧ m.1 9 = 1) ∧ ([((2 : Int), 1)] : List Sy) = []) := Or.inl ⟨by rw [o1]; exact h7, h9, rfl⟩
    have hPN : ∀ (k1 : Int) (ok1 : Bool) (S1 : List Sy), PT kE wE d (o + 1) k k1 ok1 S1 → k ≤ k1 ∧ k1 ≤ N := fun k1 ok1 S1 hp1 => PT_N (TKF_kd hF.1).2.1 d (o + 1) k k1 ok1 S1 hS.2.2.2.2.2.1 hS.2.2.2.2.2.2 hp1
    have good : ∀ (k1 : Int) (S1 : List Sy), PT kE wE d (o + 1) k k1 true S1 → (∀ m1 x3', STm t n0 en N b aF cF k1 (L ++ (2, 1) :: S1) m1 → m1.1 8 = o + 1 → m1.1 9 = 0 → m1.2.1 7 o = 1 → m1.2.1 9 o = c → tfr m m1 → tlow o m m1 → (x3' = 0 ∨ kE k1 ≠ 40) → MR x1 x2 x3' 0 k1 m1 K) → MR x1 x2 0 1 k m K := fun k1 S1 hp1 hc => by
      refine hT (o + 1) k k1 true S1 hp1 (by omega) (by omega) 0 _ [(2, 1)] m hS h8 (Or.inl rfl) (Or.inr h9) hnc hpre (fun _ m1 x3' q1 q2 q3 q4 q5 q6 => ?_) (fun z => by cases z)
      have hl := q5 o (by omega)
      rw [List.append_assoc, List.singleton_append] at q1
      exact hc m1 x3' q1 q2 q3 (hl.1.trans h7) (hl.2.2.trans h9o) q4 (tlow_le q5 (by omega)) q6
    -- behind |
    have rest : ∀ (k1 : Int) (S1 : List Sy), kE k1 = 124 → k ≤ k1 → (∀ m2, STm t n0 en N b aF cF (k1 + 1) (L ++ (2, 1) :: S1) m2 → m2.1 8 = o + 1 → m2.1 9 = 0 → m2.2.1 7 o = 2 → tfr m m2 → tlow o m m2 → MR x1 x2 0 1 (k1 + 1) m2 K) → ∀ m1 x3', STm t n0 en N b aF cF k1 (L ++ (2, 1) :: S1) m1 → m1.1 8 = o + 1 → m1.1 9 = 0 → m1.2.1 7 o = 1 → m1.2.1 9 o = c → tfr m m1 → tlow o m m1 → (x3' = 0 ∨ kE k1 ≠ 40) → MR x1 x2 x3' 0 k1 m1 K := fun k1 S1 e124 hkk hc m1 x3' r1 r2 r3 r4 r6 r7 r8 r9 => by
      obtain ⟨s1, s2, s3, s4, s5, s6, s7⟩ := r1
      have hlt := (TKF_kd hF.1).2.1 k1 s6 (by omega)
      refine mr_go hF s1 s2 s6 hlt r2 ⟨by omega, by omega⟩ r9 (fun m' hk' Q q0 q1 => ?_)
      obtain ⟨ht, hw, htok, hpl, haf⟩ := hk'
      have et : m'.1 1 = 124 := htok.trans ((tc_sg ((TKF_kd hF.1).1 k1 s6 hlt) (by unfold sign8; omega)).mpr e124)
      refine go_bar (o := o) ((ht.1 8 (by decide) (by decide) (by decide)).trans r2) ho et (by rw [ht.2.1]; exact r4) (q1 _ (fun _ => ?_) (fun _ z => absurd et z))
      refine hc _ ⟨TxM_tfr (TxM_tk s1 ht) (tfr_A7 _ _ _), haf (by omega), MP_eq (MP_tk s3 ht) rfl rfl rfl rfl rfl rfl, by omega, by omega, by omega, by omega⟩ ((ht.1 8 (by decide) (by decide) (by decide)).trans r2) ((ht.1 9 (by decide) (by decide) (by decide)).trans r3) (if_pos rfl) (tfr_trans (tfr_trans r7 (tfr_tk ht)) (tfr_A7 _ _ _)) (tlow_trans (tlow_trans r8 (tlow_tk ht)) (tlow_A7 _ _ _))
    have hnc2 : ∀ {k1 : Int} {m2 : Ob}, m2.1 9 = 0 → ¬ (kE (k1 + 1) = 93 ∧ m2.1 9 = 1 ∧ m2.2.1 7 (o + 1 - 1) = 1 ∧ m2.2.1 9 (o + 1 - 1) = 1) := fun h z => by have := z.2.1; omega
    have hpre2 : ∀ {m2 : Ob}, m2.1 9 = 0 → (m2.2.1 7 (o + 1 - 1) = 1 ∧ m2.1 9 = 1 ∧ ([] : List Sy) = [(2, 1)]) ∨ (¬ (m2.2.1 7 (o + 1 - 1) = 1 ∧ m2.1 9 = 1) ∧ ([] : List Sy) = []) := fun h => Or.inr ⟨fun z => by have := z.2; omega, rfl⟩
    rcases hp with ⟨S1, hp1, rfl, rfl⟩ | ⟨k1, S1, hp1, e44, e124, rfl, hq⟩ | ⟨k1, S1, S2, hp1, e124, hp2, rfl, rfl⟩ | ⟨k1, k2, S1, S2, hp1, e124, hp2, rfl, hq⟩ | ⟨k1, S1, S2, hp1, e44, hp2, rfl⟩
    · exact hT (o + 1) k k' false S1 hp1 (by omega) (by omega) 0 _ [(2, 1)] m hS h8 (Or.inl rfl) (Or.inr h9) hnc hpre (fun z => by cases z) hno
    · have hkk := hPN k1 true S1 hp1
      refine good k1 S1 hp1 (fun m1 x3' r1 r2 r3 r4 r6 r7 r8 r9 => ?_)
      obtain ⟨s1, s2, s3, s4, s5, s6, s7⟩ := r1
      rcases hq with ⟨e93, rfl, rfl⟩ | ⟨e93, rfl, rfl⟩
      · have hlt := (TKF_kd hF.1).2.1 k1 s6 (by omega)
        refine mr_go hF s1 s2 s6 hlt r2 ⟨by omega, by omega⟩ r9 (fun m' hk' Q q0 q1 => ?_)
        obtain ⟨ht, hw, htok, hpl, haf⟩ := hk'
        have et : m'.1 1 = 93 := htok.trans ((tc_sg ((TKF_kd hF.1).1 k1 s6 hlt) (by unfold sign8; omega)).mpr e93)
        refine go_brk1 (o := o) ((ht.1 8 (by decide) (by decide) (by decide)).trans r2) ho et (by rw [ht.2.1]; exact r4) ?_
        refine we_emit (MP_tk s3 ht) (by omega) (by decide) (fun m2 p1 p2 => q1 _ (fun z => ?_) (fun _ _ => ?_))
        · have z : m2.1 1 = 44 ∨ m2.1 1 = 124 := z
          have := p2.1 1 (by decide) (by decide)
          omega
        · rw [List.append_assoc, List.cons_append] at p1
          refine hok rfl _ 0 ⟨TxM_tfr (TxM_tk s1 ht) (tfr_trans (tfr_em p2) (tfr_8 _ _)), (p2.1 3 (by decide) (by decide)).trans (haf (by omega)), MP_eq p1 rfl rfl rfl rfl rfl rfl, ?_, ?_, by omega, by omega⟩ rfl ?_ ?_ ?_ (Or.inl rfl)
          · have e : (L ++ (2, 1) :: (S1 ++ [((0 : Int), 2)])).length = (L ++ ((2 : Int), 1) :: S1).length + 1 := by simp only [List.length_append, List.length_cons, List.length_nil]; omega
            rw [e]
            omega
          · have e : L ++ (2, 1) :: (S1 ++ [((0 : Int), 2)]) = (L ++ ((2 : Int), 1) :: S1) ++ [(0, 2)] := by rw [List.append_assoc, List.cons_append]
            rw [e, vM_non (by decide)]
            omega
          · exact (p2.1 9 (by decide) (by decide)).trans ((ht.1 9 (by decide) (by decide) (by decide)).trans r3)
          · exact tfr_trans (tfr_trans r7 (tfr_tk ht)) (tfr_trans (tfr_em p2) (tfr_8 _ _))
          · exact tlow_trans (tlow_trans r8 (tlow_tk ht)) (tlow_trans (tlow_em p2) (tlow_I _ _ _ _))
      · by_cases hkN : k' = N
        · subst hkN
          exact mr_endin hF ⟨s1, s2, s3, s4, s5, s6, s7⟩ r2 (by omega) (CF_pre (hno rfl) r7)
        · refine mr_go hF s1 s2 s6 (by omega) r2 ⟨by omega, by omega⟩ r9 (fun m' hk' Q q0 q1 => ?_)
          obtain ⟨ht, hw, htok, hpl, haf⟩ := hk'
          have hkd := (TKF_kd hF.1).1 k' s6 (by omega)
          refine go_bad (o := o) ((ht.1 8 (by decide) (by decide) (by decide)).trans r2) ho (Or.inr (Or.inl ⟨by rw [ht.2.1]; exact r4, fun z => ?_, fun z => ?_, fun z => ?_⟩)) (q0 _ ?_)
          · exact e44 ((tc_sg hkd (by unfold sign8; omega)).mp (htok.symm.trans z))
          · exact e93 ((tc_sg hkd (by unfold sign8; omega)).mp (htok.symm.trans z))
          · exact e124 ((tc_sg hkd (by unfold sign8; omega)).mp (htok.symm.trans z))
          · rw [hpl]
            exact hno rfl m' (rfr_tfr (tfr_trans r7 (tfr_tk ht)))
    · have hkk := hPN k1 true S1 hp1
      refine good k1 S1 hp1 (rest k1 S1 e124 hkk.1 (fun m2 r1 r2 r3 r4 r7 r8 => ?_))
      exact hT (o + 1) (k1 + 1) k' false S2 hp2 (by omega) (by omega) 0 _ [] m2 r1 r2 (Or.inl rfl) (Or.inl r3) (hnc2 r3) (hpre2 r3) (fun z => by cases z) (fun z => CF_pre (hno z) r7)
    · have hkk := hPN k1 true S1 hp1
      refine good k1 S1 hp1 (rest k1 S1 e124 hkk.1 (fun m2 r1 r2 r3 r4 r7 r8 => ?_))
      refine hT (o + 1) (k1 + 1) k2 true S2 hp2 (by omega) (by omega) 0 _ [] m2 r1 r2 (Or.inl rfl) (Or.inl r3) (hnc2 r3) (hpre2 r3) (fun _ m3 x3' v1 v2 v3 v4 v5 v6 => ?_) (fun z => by cases z)
      rw [List.append_nil, List.append_assoc, List.cons_append] at v1
      obtain ⟨s1, s2, s3, s4, s5, s6, s7⟩ := v1
      have hl := v5 o (by omega)
      have f3 := tfr_trans r7 v4
      have l3 := tlow_trans r8 (tlow_le v5 (show o ≤ o + 1 by omega))
      rcases hq with ⟨e93, rfl, rfl⟩ | ⟨e93, rfl, rfl⟩
      · have hlt := (TKF_kd hF.1).2.1 k2 s6 (by omega)
        refine mr_go hF s1 s2 s6 hlt v2 ⟨by omega, by omega⟩ v6 (fun m' hk' Q q0 q1 => ?_)
        obtain ⟨ht, hw, htok, hpl, haf⟩ := hk'
        have et : m'.1 1 = 93 := htok.trans ((tc_sg ((TKF_kd hF.1).1 k2 s6 hlt) (by unfold sign8; omega)).mpr e93)
        refine go_brk2 (o := o) ((ht.1 8 (by decide) (by decide) (by decide)).trans v2) ho et (by rw [ht.2.1]; exact hl.1.trans r4) (q1 _ (fun z => ?_) (fun _ _ => ?_))
        · have z : m'.1 1 = 44 ∨ m'.1 1 = 124 := z
          omega
        · exact hok rfl _ 0 ⟨TxM_tfr (TxM_tk s1 ht) (tfr_8 _ _), haf (by omega), MP_eq (MP_tk s3 ht) rfl rfl rfl rfl rfl rfl, by omega, by omega, by omega, by omega⟩ rfl ((ht.1 9 (by decide) (by decide) (by decide)).trans v3) (tfr_trans (tfr_trans f3 (tfr_tk ht)) (tfr_8 _ _)) (tlow_trans (tlow_trans l3 (tlow_tk ht)) (tlow_I _ _ _ _)) (Or.inl rfl)
      · by_cases hkN : k' = N
        · subst hkN
          exact mr_endin hF ⟨s1, s2, s3, s4, s5, s6, s7⟩ v2 (by omega) (CF_pre (hno rfl) f3)
        · refine mr_go hF s1 s2 s6 (by omega) v2 ⟨by omega, by omega⟩ v6 (fun m' hk' Q q0 q1 => ?_)
          obtain ⟨ht, hw, htok, hpl, haf⟩ := hk'
          have hkd := (TKF_kd hF.1).1 k' s6 (by omega)
          refine go_bad (o := o) ((ht.1 8 (by decide) (by decide) (by decide)).trans v2) ho (Or.inr (Or.inr ⟨by rw [ht.2.1]; exact hl.1.trans r4, fun z => ?_⟩)) (q0 _ ?_)
          · exact e93 ((tc_sg hkd (by unfold sign8; omega)).mp (htok.symm.trans z))
          · rw [hpl]
            exact hno rfl m' (rfr_tfr (tfr_trans f3 (tfr_tk ht)))
    · have hkk := hPN k1 true S1 hp1
      refine good k1 S1 hp1 (fun m1 x3' r1 r2 r3 r4 r6 r7 r8 r9 => ?_)
      obtain ⟨s1, s2, s3, s4, s5, s6, s7⟩ := r1
      have hlt := (TKF_kd hF.1).2.1 k1 s6 (by omega)
      refine mr_go hF s1 s2 s6 hlt r2 ⟨by omega, by omega⟩ r9 (fun m' hk' Q q0 q1 => ?_)
      obtain ⟨ht, hw, htok, hpl, haf⟩ := hk'
      have et : m'.1 1 = 44 := htok.trans ((tc_sg ((TKF_kd hF.1).1 k1 s6 hlt) (by unfold sign8; omega)).mpr e44)
      refine go_comma (o := o) (κ := 1) (c := c) ((ht.1 8 (by decide) (by decide) (by decide)).trans r2) ho et (by rw [ht.2.1]; exact r4) (Or.inr rfl) (by rw [ht.2.1]; exact r6) ⟨by omega, by omega⟩ (q1 _ (fun _ => ?_) (fun z => absurd et z))
      have f1 : tfr m (sI (sA m' 9 o (c + 1)) 9 1) := tfr_trans (tfr_trans r7 (tfr_tk ht)) (tfr_trans (tfr_A9 _ _ _) (tfr_9 _ _))
      have l1 : tlow o m (sI (sA m' 9 o (c + 1)) 9 1) := tlow_trans (tlow_trans r8 (tlow_tk ht)) (tlow_trans (tlow_A9 _ _ _) (tlow_I _ _ _ _))
      refine ih (k1 + 1) k' ok S2 hp2 (L ++ (2, 1) :: S1) (c + 1) _ ⟨TxM_tfr (TxM_tk s1 ht) (tfr_trans (tfr_A9 _ _ _) (tfr_9 _ _)), haf (by omega), MP_eq (MP_tk s3 ht) rfl rfl rfl rfl rfl rfl, by omega, by omega, by omega, by omega⟩ ((ht.1 8 (by decide) (by decide) (by decide)).trans r2) rfl ?_ (if_pos rfl) (by omega) (by omega) (fun z => by omega) (fun z => ?_) (fun z => CF_pre (hno z) f1)
      · show m'.2.1 7 o = 1
        rw [ht.2.1]; exact r4
      · have := CO_pre (hok z) f1 l1
        rw [List.append_assoc, List.cons_append]
        exact this
theorem tm_M (hF : TF t n0 kE wE pl en N) : ∀ d : Nat, TMd t n0 kE wE pl en N b aF cF x1 x2 K d := by
  intro d
  induction d with
  | zero => intro o k k' ok S z; exact absurd z id
  | succ d ih =>
    intro o k k' ok S hp ho1 ho2 x3 L pre m hS h8 h3 h9 hnc hpre hok hno
    have hN := TF_N hF
    have hS0 := hS
    obtain ⟨s1, s2, s3, s4, s5, s6, s7⟩ := hS
    obtain ⟨pl1, pv⟩ := pre_len (m := m) hpre
    have h32 := hF.1.2.1
    by_cases hkN : k = N
    · have e32 : kE k = 32 := h32 k (by omega)
      rcases hp with ⟨e, -⟩ | ⟨e, -⟩ | ⟨e, -⟩ | ⟨e, -⟩ | ⟨e, -⟩ | ⟨e, -⟩ | ⟨e, -⟩ | ⟨-, -, -, rfl, rfl, rfl⟩
      · omega
      · omega
      · omega
      · omega
      · omega
      · omega
      · omega
      · subst hkN
        exact mr_endin hF hS0 h8 ho1 (hno rfl)
    · have hlt : k < N := by omega
      have hkd := (TKF_kd hF.1).1 k s6 hlt
      refine mr_aw hF s1 s2 s6 hlt h8 ⟨ho1, ho2⟩ h3 h9 hnc (fun m' hk' Q q0 q1 => ?_)
      obtain ⟨ht, hw, htok, hpl, haf⟩ := hk'
      have h8' : m'.1 8 = o := (ht.1 8 (by decide) (by decide) (by decide)).trans h8
      have h9' : m'.1 9 = m.1 9 := ht.1 9 (by decide) (by decide) (by decide)
      have go : (m'.1 1 = 1 ∨ m'.1 1 = 2 ∨ m'.1 1 = 91) → (∀ m2, MP b aF cF (L ++ pre) m2 → emf m' m2 → M_beginTerm_55 m2 Q) → wp_M_beginTerm m' Q := fun hh hc => bt_go (MP_tk s3 ht) (by omega) h8' ⟨ho1, ho2⟩ (by rw [h9']; exact h9) (by rw [h9', ht.2.1]; exact hpre) hh hc
      have hlp : (L ++ pre).length = L.length + pre.length := List.length_append
      have bnd : b + ((L ++ pre).length : Int) < 500 := by rw [hlp]; omega
      -- the name's symbol
      have name : kE k = 97 → (∀ m3, STm t n0 en N b aF cF (k + 1) (L ++ pre ++ [(0, wE k)]) m3 → m3.1 8 = o → m3.1 9 = 0 → tfr m m3 → tlow o m m3 → MR x1 x2 1 0 (k + 1) m3 K) → wp_M_beginTerm m' Q := fun e97 hc => by
        have et : m'.1 1 = 1 := htok.trans ((tc_1 hkd).mpr e97)
        refine go (Or.inl et) (fun m2 p1 p2 => ?_)
        have et2 : m2.1 1 = 1 := (p2.1 1 (by decide) (by decide)).trans et
        have ew : m2.2.2.1 0 = wE k := by rw [p2.2.2.1]; exact hw (Or.inl e97)
        refine ⟨fun z => absurd et2 z, fun _ => ?_⟩
        rw [ew]
        refine we_emit (MP_eq p1 rfl rfl rfl rfl rfl rfl) bnd (by decide) (fun m3 v1 v2 => q1 m3 (fun _ => ?_) (fun z => ?_) (fun z => ?_))
        · have f3 : tfr m m3 := tfr_trans (tfr_tk ht) (tfr_trans (tfr_em p2) (tfr_trans (tfr_9 _ _) (tfr_em v2)))
          refine hc m3 ⟨TxM_tfr s1 f3, (v2.1 3 (by decide) (by decide)).trans ((p2.1 3 (by decide) (by decide)).trans (haf (by omega))), v1, ?_, ?_, by omega, by omega⟩ ((v2.1 8 (by decide) (by decide)).trans ((p2.1 8 (by decide) (by decide)).trans h8')) (v2.1 9 (by decide) (by decide)) f3 (tlow_trans (tlow_tk ht) (tlow_trans (tlow_em p2) (tlow_trans (tlow_I _ _ _ _) (tlow_em v2))))
          · rw [List.length_append, hlp, List.length_singleton]; omega
          · rw [vM_non (show (0 : Int) ≠ -1 by decide), pv]; omega
        · exact absurd ((v2.1 1 (by decide) (by decide)).trans et2) z
        · have := (v2.1 1 (by decide) (by decide)).trans et2
          omega
      -- [
      have brk : kE k = 91 → (o = 15 → ∀ m3, tfr m m3 → m3.1 2 = pl k → K (m3.1 2) m3) → (o < 15 → ∀ m3, STm t n0 en N b aF cF (k + 1) (L ++ pre) m3 → m3.1 8 = o + 1 → m3.1 9 = 1 → m3.2.1 7 o = 1 → m3.2.1 9 o = 1 → tfr m m3 → tlow o m m3 → MR x1 x2 0 1 (k + 1) m3 K) → wp_M_beginTerm m' Q := fun e91 hf hc => by
        have et : m'.1 1 = 91 := htok.trans ((tc_sg hkd (by unfold sign8; omega)).mpr e91)
        refine go (Or.inr (Or.inr et)) (fun m2 p1 p2 => ?_)
        have et2 : m2.1 1 = 91 := (p2.1 1 (by decide) (by decide)).trans et
        have e8 : m2.1 8 = o := (p2.1 8 (by decide) (by decide)).trans h8'
        have e4 := p1.1
        have hb : 0 ≤ b := p1.2.2.2.2.2.2
        refine ⟨fun _ => ⟨fun _ => ?_, fun z => by omega⟩, fun z => by omega⟩
        unfold wp_M_push
        rw [show (sI m2 9 0).1 8 = o from e8]
        refine ⟨fun z => ⟨⟨by omega, by omega⟩, ⟨?_, ?_⟩, ⟨by omega, by omega⟩, ⟨by omega, by omega⟩, ⟨by omega, by omega⟩, fun _ => q1 _ (fun z2 => ?_) (fun _ z2 => ?_) (fun _ => ?_), fun z2 => absurd z2 (by decide)⟩, fun z => ⟨fun z2 => absurd rfl z2, fun _ => q0 _ ?_⟩⟩
        · show -2147483648 ≤ m2.1 4 - 1; omega
        · show m2.1 4 - 1 ≤ 2147483647; omega
        · have z2 : m2.1 1 = 1 := z2
          omega
        · exact absurd et2 z2
        · have f3 : ∀ v, tfr m (sI (sI (sA (sA (sA (sI m2 9 0) 7 o 1) 8 o v) 9 o 1) 8 (o + 1)) 9 1) := fun v => tfr_trans (tfr_tk ht) (tfr_trans (tfr_em p2) (tfr_trans (tfr_9 _ _) (tfr_trans (tfr_A7 _ _ _) (tfr_trans (tfr_A8 _ _ _) (tfr_trans (tfr_A9 _ _ _) (tfr_trans (tfr_8 _ _) (tfr_9 _ _)))))))
          have l3 : ∀ v, tlow o m (sI (sI (sA (sA (sA (sI m2 9 0) 7 o 1) 8 o v) 9 o 1) 8 (o + 1)) 9 1) := fun v => tlow_trans (tlow_tk ht) (tlow_trans (tlow_em p2) (tlow_trans (tlow_I _ _ _ _) (tlow_trans (tlow_A7 _ _ _) (tlow_trans (tlow_A8 _ _ _) (tlow_trans (tlow_A9 _ _ _) (tlow_trans (tlow_I _ _ _ _) (tlow_I _ _ _ _)))))))
          refine hc (by omega) _ ⟨TxM_tfr s1 (f3 _), (p2.1 3 (by decide) (by decide)).trans (haf (by omega)), MP_eq p1 rfl rfl rfl rfl rfl rfl, ?_, ?_, by omega, by omega⟩ rfl rfl (if_pos rfl) (if_pos rfl) (f3 _) (l3 _)
          · rw [hlp]; omega
          · rw [pv]; omega
        · exact hf z _ (tfr_trans (tfr_tk ht) (tfr_trans (tfr_em p2) (tfr_9 _ _))) ((p2.1 2 (by decide) (by decide)).trans hpl)
      rcases hp with ⟨e65, rfl, rfl, rfl⟩ | ⟨e97, e40, rfl, rfl, rfl⟩ | ⟨e97, e40, ho, rfl, rfl, rfl⟩ | ⟨e97, e40, ho, n, a, S', hp1, rfl⟩ | ⟨e91, ho, rfl, rfl, rfl⟩ | ⟨e91, ho, e93, rfl, rfl, rfl⟩ | ⟨e91, ho, e93, n, hp1⟩ | ⟨e65, e97, e91, rfl, rfl, rfl⟩
      · have et : m'.1 1 = 2 := htok.trans ((tc_2 hkd).mpr e65)
        refine go (Or.inr (Or.inl et)) (fun m2 p1 p2 => ?_)
        have et2 : m2.1 1 = 2 := (p2.1 1 (by decide) (by decide)).trans et
        have ew : m2.2.2.1 0 = wE k := by rw [p2.2.2.1]; exact hw (Or.inr e65)
        refine ⟨fun _ => ⟨fun z => absurd et2 z, fun _ => ?_⟩, fun z => by omega⟩
        refine we_var (w := wE k) (MP_eq p1 rfl rfl rfl rfl rfl rfl) bnd (by rw [pv]; omega) ew (fun m3 v1 v2 => q1 m3 (fun z => ?_) (fun _ _ => ?_) (fun z => ?_))
        · have := (v2.1 1 (by decide) (by decide)).trans et2
          omega
        · have f3 : tfr m m3 := tfr_trans (tfr_tk ht) (tfr_trans (tfr_em p2) (tfr_trans (tfr_9 _ _) (tfr_em v2)))
          refine hok rfl m3 0 ⟨TxM_tfr s1 f3, (v2.1 3 (by decide) (by decide)).trans ((p2.1 3 (by decide) (by decide)).trans (haf (by omega))), v1, ?_, ?_, by omega, by omega⟩ ((v2.1 8 (by decide) (by decide)).trans ((p2.1 8 (by decide) (by decide)).trans h8')) (v2.1 9 (by decide) (by decide)) f3 (tlow_trans (tlow_tk ht) (tlow_trans (tlow_em p2) (tlow_trans (tlow_I _ _ _ _) (tlow_em v2)))) (Or.inl rfl)
          · rw [List.length_append, hlp, List.length_singleton]; omega
          · have := vM_snoc_le (L ++ pre) (-1, wE k)
            rw [pv] at this
            omega
        · have := (v2.1 1 (by decide) (by decide)).trans et2
          omega
      · exact name e97 (fun m3 r1 r2 r3 r4 r5 => hok rfl m3 1 r1 r2 r3 r4 r5 (Or.inr e40))
      · have hlt2 := (TKF_kd hF.1).2.1 (k + 1) (by omega) (by omega)
        refine name e97 (fun m3 r1 r2 r3 r4 r5 => ?_)
        obtain ⟨u1, u2, u3, u4, u5, u6, u7⟩ := r1
        have := u3.1
        have hb : 0 ≤ b := u3.2.2.2.2.2.2
        refine mr_open hF u1 u2 (by omega) hlt2 r2 ⟨by omega, by omega⟩ (by omega) (by omega) e40 (fun m4 h4 => ⟨fun _ => ?_, fun z => by omega⟩)
        obtain ⟨ht4, -, -, hpl4, -⟩ := h4
        rw [hpl4]
        exact hno rfl m4 (rfr_tfr (tfr_trans r4 (tfr_tk ht4)))
      · have hlt2 := (TKF_kd hF.1).2.1 (k + 1) (by omega) (by omega)
        refine name e97 (fun m3 r1 r2 r3 r4 r5 => ?_)
        obtain ⟨u1, u2, u3, u4, u5, u6, u7⟩ := r1
        have hu := u3.1
        have hb : 0 ≤ b := u3.2.2.2.2.2.2
        refine mr_open hF u1 u2 (by omega) hlt2 r2 ⟨by omega, by omega⟩ (by omega) (by omega) e40 (fun m4 h4 => ⟨fun z => by omega, fun _ => ?_⟩)
        obtain ⟨ht4, -, -, hpl4, haf4⟩ := h4
        have f5 : tfr m (sI (sA (sA (sA m4 7 o 0) 8 o (m4.1 4 - 1)) 9 o 1) 8 (o + 1)) := tfr_trans (tfr_trans r4 (tfr_tk ht4)) (tfr_trans (tfr_A7 _ _ _) (tfr_trans (tfr_A8 _ _ _) (tfr_trans (tfr_A9 _ _ _) (tfr_8 _ _))))
        have l5 : tlow o m (sI (sA (sA (sA m4 7 o 0) 8 o (m4.1 4 - 1)) 9 o 1) 8 (o + 1)) := tlow_trans (tlow_trans r5 (tlow_tk ht4)) (tlow_trans (tlow_A7 _ _ _) (tlow_trans (tlow_A8 _ _ _) (tlow_trans (tlow_A9 _ _ _) (tlow_I _ _ _ _))))
        have e2 : k + 1 + 1 = k + 2 := by omega
        rw [e2]
        rw [e2] at haf4
        have hu4 : m4.1 4 = m3.1 4 := ht4.1 4 (by decide) (by decide) (by decide)
        rw [List.length_append, List.length_singleton] at hu u4
        refine ag_M hF ih (o := o) ⟨by omega, by omega⟩ (E0 := L ++ pre) (w := wE k) n (k + 2) k' ok a S' hp1 [] 0 _ ⟨TxM_tfr s1 f5, haf4 (by omega), MP_eq (MP_tk u3 ht4) rfl rfl rfl rfl rfl rfl, ?_, ?_, by omega, by omega⟩ rfl ?_ ?_ ?_ ?_ (by omega) (fun z => ?_) (fun z => CF_pre (hno z) f5)
        · rw [List.length_append, List.length_singleton]; omega
        · omega
        · exact (ht4.1 9 (by decide) (by decide) (by decide)).trans r3
        · exact if_pos rfl
        · show (if o = o then m4.1 4 - 1 else _) = _
          rw [if_pos rfl]; omega
        · show (if o = o then (1 : Int) else _) = _
          rw [if_pos rfl]; rfl
        · have := CO_pre (hok z) f5 l5
          rw [Nat.zero_add, List.nil_append]
          exact this
      · refine brk e91 (fun _ m3 f3 e2 => ?_) (fun z => by omega)
        rw [e2]
        exact hno rfl m3 (rfr_tfr f3)
      · have hlt2 := (TKF_kd hF.1).2.1 (k + 1) (by omega) (by omega)
        refine brk e91 (fun z => by omega) (fun _ m3 r1 r2 r3 r4 r4' r5 r6 => ?_)
        obtain ⟨u1, u2, u3, u4, u5, u6, u7⟩ := r1
        have o1 : o + 1 - 1 = o := by omega
        refine mr_nil hF u1 u2 (by omega) hlt2 r2 ⟨by omega, by omega⟩ r3 (by rw [o1]; exact r4) (by rw [o1]; exact r4') e93 (fun m4 h4 => ?_)
        obtain ⟨ht4, -, -, hpl4, haf4⟩ := h4
        refine we_emit (MP_tk u3 ht4) (by omega) (by decide) (fun m5 v1 v2 => ⟨(v2.1 8 (by decide) (by decide)).trans ((ht4.1 8 (by decide) (by decide) (by decide)).trans r2), ?_⟩)
        rw [o1, show k + 1 + 1 = k + 2 by omega]
        rw [show k + 1 + 1 = k + 2 by omega] at haf4
        have f5 : tfr m (sI (sI m5 8 o) 9 0) := tfr_trans (tfr_trans r5 (tfr_tk ht4)) (tfr_trans (tfr_em v2) (tfr_trans (tfr_8 _ _) (tfr_9 _ _)))
        refine hok rfl _ 0 ⟨TxM_tfr s1 f5, (v2.1 3 (by decide) (by decide)).trans (haf4 (by omega)), MP_eq v1 rfl rfl rfl rfl rfl rfl, ?_, ?_, by omega, by omega⟩ rfl rfl f5 (tlow_trans (tlow_trans r6 (tlow_tk ht4)) (tlow_trans (tlow_em v2) (tlow_trans (tlow_I _ _ _ _) (tlow_I _ _ _ _)))) (Or.inl rfl)
        · rw [List.length_append, List.length_singleton]; omega
        · rw [vM_non (by decide)]; omega
      · refine brk e91 (fun z => by omega) (fun _ m3 r1 r2 r3 r4 r4' r5 r6 => ?_)
        exact lg_M hF ih (o := o) ⟨by omega, by omega⟩ n (k + 1) k' ok S hp1 (L ++ pre) 1 m3 r1 r2 r3 r4 r4' (by decide) (by omega) (fun z => e93 z.1) (fun z => CO_pre (hok z) r5 r6) (fun z => CF_pre (hno z) r5)
      · have t1 : m'.1 1 ≠ 1 := fun z => e97 ((tc_1 hkd).mp (htok.symm.trans z))
        have t2 : m'.1 1 ≠ 2 := fun z => e65 ((tc_2 hkd).mp (htok.symm.trans z))
        have t3 : m'.1 1 ≠ 91 := fun z => e91 ((tc_sg hkd (by unfold sign8; omega)).mp (htok.symm.trans z))
        refine ⟨fun z => absurd z t1, fun _ => ⟨fun z => absurd z t2, fun _ => ⟨fun z => absurd z t3, fun _ => q0 _ ?_⟩⟩⟩
        rw [hpl]
        exact hno rfl m' (rfr_tfr (tfr_tk ht))
end MTM
