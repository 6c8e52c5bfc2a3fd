/-! the pure part: the reference's reader: clauses and questions -/
/-- between two clauses -/
def CI (t : Int → Int) (n0 : Int) (en : Int → Int) (N : Int) (Ps : List Part) (k : Int) (m : Ob) : Prop := TxM t n0 m ∧ m.1 3 = eb en k ∧ 0 ≤ k ∧ k ≤ N ∧ m.1 4 = ((psL Ps).length : Int) ∧ ((psL Ps).length : Int) ≤ 2 * k ∧ m.1 5 = (Ps.length : Int) ∧ (Ps.length : Int) ≤ k ∧ m.1 6 = (gN Ps : Int) ∧ (gN Ps : Int) ≤ k ∧ m.1 8 = 0 ∧ m.1 9 = 0 ∧ DP Ps (m.2.1 1) (m.2.2.2 0) (m.2.1 2) (m.2.1 3) (m.2.1 4) (m.2.1 5)
section MCL
variable {t : Int → Int} {n0 : Int} {kE : Int → Int} {wE : Int → Nat} {pl en : Int → Int} {N b : Int} {aF : Int → Int} {cF : Int → Nat} {x1 x2 k k' : Int} {K : Int → Ob → Prop}
theorem MP_nil {m : Ob} {b : Int} (hb : 0 ≤ b) (h4 : m.1 4 = b) (h7 : m.1 7 = 0) : MP b (m.2.1 1) (m.2.2.2 0) [] m := ⟨by rw [h4]; simp, fun _ _ _ => ⟨rfl, rfl⟩, fun j hj => absurd hj (Nat.not_lt_zero _), by rw [h7]; rfl, fun j hj => absurd hj (Nat.not_lt_zero _), fun j hj => absurd hj (Nat.not_lt_zero _), hb⟩
/-- the dot behind a piece -/
theorem dot_M (hF : TF t n0 kE wE pl en N) {Ps : List Part} {H : List Sy} {Gs : List (List Sy)} {m : Ob} {x3 : Int} {st : Int} (hst : st = 1 ∨ st = 3) (hS : STm t n0 en N ((psL Ps).length : Int) aF cF k (H ++ Gs.flatten) m) (hO : OI ((psL Ps).length : Int) (Ps.length : Int) (gN Ps : Int) H Gs k m) (hD : DP Ps aF cF (m.2.1 2) (m.2.1 3) (m.2.1 4) (m.2.1 5)) (e46 : kE k = 46) (h3 : x3 = 0 ∨ kE k ≠ 40) (hK : ∀ m', MP ((psL Ps).length : Int) aF cF (H ++ Gs.flatten) m' → CI t n0 en N (Ps ++ [(H, Gs)]) (k + 1) m' → rfr m m' → MR x1 (if x1 = 0 then 0 else 4) 0 0 (k + 1) m' K) : MR x1 st x3 0 k m K := by
  have hN := TF_N hF
  obtain ⟨s1, s2, s3, s4, s5, s6, s7⟩ := hS
  obtain ⟨h1, h2, h3', h4, h5, h6, h7, h8, h9, h10, h11⟩ := hO
  have hlt := (TKF_kd hF.1).2.1 k s6 (by omega)
  refine mr_out hF s1 s2 s6 hlt h7 h3 (fun m' hk' Q q0 q1 => ?_)
  obtain ⟨ht, hw, htok, hpl, haf⟩ := hk'
  have et : m'.1 1 = 46 := htok.trans ((tc_sg ((TKF_kd hF.1).1 k s6 hlt) (by unfold sign8; omega)).mpr e46)
  have e5 : m'.1 5 = (Ps.length : Int) := (ht.1 5 (by decide) (by decide) (by decide)).trans h1
  have e7 : m'.1 7 = ((vM (H ++ Gs.flatten)).length : Int) := (MP_tk s3 ht).2.2.2.1
  have fin : M_outside_111 x1 m' Q := by
    refine ⟨fun z => absurd et z, fun _ => ⟨⟨by omega, by omega⟩, ⟨by omega, by omega⟩, ?_⟩⟩
    rw [e5, e7]
    have res : MR x1 (if x1 = 0 then 0 else 4) 0 0 (k + 1) (sI (sA m' 4 (Ps.length : Int) ((vM (H ++ Gs.flatten)).length : Int)) 5 ((Ps.length : Int) + 1)) K := by
      have hM := MP_eq (m' := sI (sA m' 4 (Ps.length : Int) ((vM (H ++ Gs.flatten)).length : Int)) 5 ((Ps.length : Int) + 1)) (MP_tk s3 ht) rfl rfl rfl rfl rfl rfl
      have hlen : (psL (Ps ++ [(H, Gs)])).length = (psL Ps).length + (H ++ Gs.flatten).length := by rw [psL_snoc, List.length_append]; rfl
      refine hK _ hM ⟨⟨by rw [← (TxM_tk s1 ht).1]; rfl, (TxM_tk s1 ht).2⟩, haf (by omega), by omega, by omega, ?_, ?_, ?_, ?_, ?_, ?_, ?_, ?_, ?_⟩ ?_
      · rw [hlen]; have := hM.1; omega
      · rw [hlen]; omega
      · show (Ps.length : Int) + 1 = _
        rw [List.length_append, List.length_singleton]; omega
      · rw [List.length_append, List.length_singleton]; omega
      · rw [gN_snoc]
        show m'.1 6 = _
        rw [ht.1 6 (by decide) (by decide) (by decide), h4]
        show _ = ((gN Ps + Gs.length : Nat) : Int)
        omega
      · rw [gN_snoc]
        show ((gN Ps + Gs.length : Nat) : Int) ≤ _
        omega
      · exact (ht.1 8 (by decide) (by decide) (by decide)).trans h7
      · exact (ht.1 9 (by decide) (by decide) (by decide)).trans h8
      · refine DP_snoc (DP_eq hD (fun j j0 j1 => ?_) (fun j j0 j1 => ⟨?_, ?_, ?_⟩) (fun j j0 j1 => ?_)) ⟨?_, ?_, ?_, ?_, ?_⟩
        · exact hM.2.1 j j0 j1
        · show m'.2.1 2 j = _; rw [ht.2.1]
        · show m'.2.1 3 j = _; rw [ht.2.1]
        · show (if j = (Ps.length : Int) then _ else m'.2.1 4 j) = _
          rw [if_neg (by omega), ht.2.1]
        · show m'.2.1 5 j = _; rw [ht.2.1]
        · show m'.2.1 2 _ = _; rw [ht.2.1]; exact h2
        · show m'.2.1 3 _ = _; rw [ht.2.1]; exact h3'
        · exact if_pos rfl
        · exact hM.2.2.1
        · show RGo (m'.2.1 5) _ _ _
          rw [ht.2.1]; exact h6
      · refine ⟨fun j z => ?_, fun j z => ?_, fun j z => ?_⟩
        · show (if j = 5 then _ else m'.1 j) = _
          rw [if_neg (by omega)]
          exact ht.1 j (by omega) (by omega) (by omega)
        · show (if j = 4 then _ else m'.2.1 j) = _
          rw [if_neg (by omega), ht.2.1]
        · show m'.2.2.2 j = _
          rw [ht.2.2]
    refine ⟨fun z => q1 0 _ (by decide) (fun z2 => ?_) (fun _ => ?_), fun z => q1 4 _ (by decide) (fun z2 => ?_) (fun _ => ?_)⟩
    · have z2 : m'.1 1 = 1 := z2
      omega
    · rw [if_pos z] at res; exact res
    · have z2 : m'.1 1 = 1 := z2
      omega
    · rw [if_neg z] at res; exact res
  rcases hst with e | e
  · subst e
    exact ⟨fun z => absurd z (by decide), fun _ => ⟨fun _ => ⟨fun _ => ⟨fun z => absurd rfl z, fun _ => ⟨fun z => by omega, fun _ => ⟨fun _ => ⟨fun _ => fin, fun z => absurd rfl z⟩, fun z => absurd z (by decide)⟩⟩⟩, fun z => absurd z (by decide)⟩, fun z => absurd z (by decide)⟩⟩
  · subst e
    exact ⟨fun z => absurd z (by decide), fun _ => ⟨fun _ => ⟨fun _ => ⟨fun _ => ⟨fun z => absurd rfl z, fun _ => ⟨fun _ => ⟨fun z => absurd z (by decide), fun _ => ⟨fun z => absurd rfl z, fun _ => fin⟩⟩, fun z => by omega⟩⟩, fun z => absurd z (by decide)⟩, fun z => absurd z (by decide)⟩, fun z => absurd z (by decide)⟩⟩
/-- a token that can't stand behind a piece -/
theorem bad_M (hF : TF t n0 kE wE pl en N) {m : Ob} {x3 : Int} {st : Int} (hst : (st = 1 ∧ kE k ≠ 58) ∨ (st = 3 ∧ kE k ≠ 44)) (hx : TxM t n0 m) (ha : m.1 3 = eb en k) (hk : 0 ≤ k) (hkN : k ≤ N) (h8 : m.1 8 = 0) (e46 : kE k ≠ 46) (h3 : x3 = 0 ∨ kE k ≠ 40) (hK : CF pl k m K) : MR x1 st x3 0 k m K := by
  by_cases e : k = N
  · subst e
    exact mr_endout hF hx ha h8 (by omega) (by omega) hK
  · have hlt : k < N := by omega
    have hkd := (TKF_kd hF.1).1 k hk hlt
    refine mr_out hF hx ha hk hlt h8 h3 (fun m' hk' Q q0 q1 => ?_)
    obtain ⟨ht, hw, htok, hpl, haf⟩ := hk'
    have fin : Q (-1) m' := q0 m' (by rw [hpl]; exact hK m' (rfr_tfr (tfr_tk ht)))
    have t46 : m'.1 1 ≠ 46 := fun z => e46 ((tc_sg hkd (by unfold sign8; omega)).mp (htok.symm.trans z))
    have f111 : M_outside_111 x1 m' Q := ⟨fun _ => fin, fun z => absurd z t46⟩
    rcases hst with ⟨e, e58⟩ | ⟨e, e44⟩
    · subst e
      have t3 : m'.1 1 ≠ 3 := fun z => e58 ((tc_3 hkd).mp (htok.symm.trans z))
      exact ⟨fun z => absurd z (by decide), fun _ => ⟨fun _ => ⟨fun _ => ⟨fun z => absurd rfl z, fun _ => ⟨fun z => absurd z t3, fun _ => ⟨fun _ => ⟨fun _ => f111, fun z => absurd rfl z⟩, fun z => absurd z (by decide)⟩⟩⟩, fun z => absurd z (by decide)⟩, fun z => absurd z (by decide)⟩⟩
    · subst e
      have t44 : m'.1 1 ≠ 44 := fun z => e44 ((tc_sg hkd (by unfold sign8; omega)).mp (htok.symm.trans z))
      exact ⟨fun z => absurd z (by decide), fun _ => ⟨fun _ => ⟨fun _ => ⟨fun _ => ⟨fun z => absurd rfl z, fun _ => ⟨fun _ => ⟨fun z => absurd z (by decide), fun _ => ⟨fun z => absurd rfl z, fun _ => f111⟩⟩, fun z => absurd z t44⟩⟩, fun z => absurd z (by decide)⟩, fun z => absurd z (by decide)⟩, fun z => absurd z (by decide)⟩⟩
/-- a clause -/
theorem pc_M (hF : TF t n0 kE wE pl en N) {ok : Bool} {p : Part} {Ps : List Part} {m : Ob} (hp : PCl kE wE k k' ok p) (h32 : kE k ≠ 32) (hC : CI t n0 en N Ps k m) (hok : ok = true → ∀ m', CI t n0 en N (Ps ++ [p]) k' m' → rfr m m' → MR 0 0 0 0 k' m' K) (hno : ok = false → CF pl k' m K) : MR 0 0 0 0 k m K := by
  have hN := TF_N hF
  obtain ⟨c1, c2, c3, c4, c5, c6, c7, c8, c9, c10, c11, c12, c13⟩ := hC
  have hlt := (TKF_kd hF.1).2.1 k c3 h32
  have hkd := (TKF_kd hF.1).1 k c3 hlt
  have hwd := (TKF_kd hF.1).2.2.1
  refine mr_out hF c1 c2 c3 hlt c11 (Or.inl rfl) (fun m' hk' Q q0 q1 => ?_)
  obtain ⟨ht, hw, htok, hpl, haf⟩ := hk'
  have e4 : m'.1 4 = ((psL Ps).length : Int) := (ht.1 4 (by decide) (by decide) (by decide)).trans c5
  have e5 : m'.1 5 = (Ps.length : Int) := (ht.1 5 (by decide) (by decide) (by decide)).trans c7
  have name : kE k = 97 → (∀ m3, STm t n0 en N ((psL Ps).length : Int) (m.2.1 1) (m.2.2.2 0) (k + 1) ([] ++ [(0, wE k)]) m3 → (∀ H, OI ((psL Ps).length : Int) (Ps.length : Int) (gN Ps : Int) H [] (k + 1) m3) → DP Ps (m.2.1 1) (m.2.2.2 0) (m3.2.1 2) (m3.2.1 3) (m3.2.1 4) (m3.2.1 5) → rfr m m3 → MR 0 1 1 0 (k + 1) m3 K) → wp_M_outside 0 0 m' Q := fun e97 hc => by
    have et : m'.1 1 = 1 := htok.trans ((tc_1 hkd).mpr e97)
    have fin : wp_M_beginPiece m' (fun m_6 => M_outside_32 0 m_6 Q) := by
      refine ⟨⟨by omega, by omega⟩, ⟨by omega, by omega⟩, ?_⟩
      rw [e4, e5]
      have hM : MP ((psL Ps).length : Int) (m.2.1 1) (m.2.2.2 0) [] (sI (sA (sA m' 2 (Ps.length : Int) ((psL Ps).length : Int)) 3 (Ps.length : Int) 0) 7 0) := by
        have := MP_nil (m := sI (sA (sA m' 2 (Ps.length : Int) ((psL Ps).length : Int)) 3 (Ps.length : Int) 0) 7 0) (b := ((psL Ps).length : Int)) (by omega) e4 rfl
        rw [show (sI (sA (sA m' 2 (Ps.length : Int) ((psL Ps).length : Int)) 3 (Ps.length : Int) 0) 7 0).2.1 1 = m.2.1 1 by show m'.2.1 1 = _; rw [ht.2.1], show (sI (sA (sA m' 2 (Ps.length : Int) ((psL Ps).length : Int)) 3 (Ps.length : Int) 0) 7 0).2.2.2 0 = m.2.2.2 0 by show m'.2.2.2 0 = _; rw [ht.2.2]] at this
        exact this
      have ew : m'.2.2.1 0 = wE k := hw (Or.inl e97)
      show wp_M_emit (m'.2.2.1 0) 0 _ _
      rw [ew]
      refine we_emit hM (by show ((psL Ps).length : Int) + ((0 : Nat) : Int) < 500; omega) (by decide) (fun m3 w1 w2 => ⟨⟨by decide, by decide⟩, q1 1 m3 (by decide) (fun _ => ?_) (fun z => ?_)⟩)
      · have a2 : m3.2.1 2 = updI (m'.2.1 2) (Ps.length : Int) ((psL Ps).length : Int) := w2.2.1 2 (by decide) (by decide)
        have a3 : m3.2.1 3 = updI (m'.2.1 3) (Ps.length : Int) 0 := w2.2.1 3 (by decide) (by decide)
        have a4 : m3.2.1 4 = m'.2.1 4 := w2.2.1 4 (by decide) (by decide)
        have a5 : m3.2.1 5 = m'.2.1 5 := w2.2.1 5 (by decide) (by decide)
        refine hc m3 ⟨⟨?_, ?_⟩, ?_, w1, ?_, ?_, by omega, by omega⟩ (fun H => ⟨?_, ?_, ?_, ?_, ?_, fun q hq => absurd hq (Nat.not_lt_zero _), ?_, ?_, by omega, by omega, by omega⟩) ?_ ?_
        · rw [w2.2.1 0 (by decide) (by decide)]; exact (TxM_tk c1 ht).1
        · exact (w2.1 0 (by decide) (by decide)).trans (TxM_tk c1 ht).2
        · exact (w2.1 3 (by decide) (by decide)).trans (haf (by omega))
        · show ((psL Ps).length : Int) + ((1 : Nat) : Int) ≤ _; omega
        · rw [vM_non (show (0 : Int) ≠ -1 by decide)]; show ((0 : Nat) : Int) ≤ _; omega
        · exact (w2.1 5 (by decide) (by decide)).trans e5
        · rw [a2]; exact if_pos rfl
        · rw [a3]; exact if_pos rfl
        · refine (w2.1 6 (by decide) (by decide)).trans ?_
          show m'.1 6 = _
          rw [ht.1 6 (by decide) (by decide) (by decide), c9]
          show _ = _ + ((0 : Nat) : Int)
          omega
        · show (gN Ps : Int) + ((0 : Nat) : Int) ≤ _; omega
        · exact (w2.1 8 (by decide) (by decide)).trans ((ht.1 8 (by decide) (by decide) (by decide)).trans c11)
        · exact (w2.1 9 (by decide) (by decide)).trans ((ht.1 9 (by decide) (by decide) (by decide)).trans c12)
        · refine DP_eq c13 (fun _ _ _ => ⟨rfl, rfl⟩) (fun j j0 j1 => ⟨?_, ?_, ?_⟩) (fun j j0 j1 => ?_)
          · rw [a2, ht.2.1]; exact if_neg (by omega)
          · rw [a3, ht.2.1]; exact if_neg (by omega)
          · rw [a4, ht.2.1]
          · rw [a5, ht.2.1]
        · refine rfr_trans (rfr_tfr (tfr_tk ht)) (rfr_trans ?_ (rfr_tfr (tfr_em w2)))
          refine ⟨fun j z => if_neg (by omega), fun j z => ?_, fun _ _ => rfl⟩
          show (if j = 3 then _ else if j = 2 then _ else m'.2.1 j) = _
          rw [if_neg (by omega), if_neg (by omega)]
      · exact absurd ((w2.1 1 (by decide) (by decide)).trans et) z
    exact ⟨fun _ => ⟨fun z => absurd et z, fun _ => ⟨fun z => absurd rfl z, fun _ => fin⟩⟩, fun z => absurd rfl z⟩
  -- behind the head, where no neck stands
  rcases hp with ⟨e97, rfl, rfl⟩ | ⟨e97, S, hp1, rfl⟩ | ⟨e97, k1, H, hp1, e58, n, G, hp2, rfl⟩ | ⟨e97, k1, k2, H, n, G, hp1, e58, hp2, hq⟩ | ⟨e97, k1, H, hp1, e58, hq⟩
  · have t1 : m'.1 1 ≠ 1 := fun z => e97 ((tc_1 hkd).mp (htok.symm.trans z))
    have fin : Q (-1) m' := q0 m' (by rw [hpl]; exact hno rfl m' (rfr_tfr (tfr_tk ht)))
    exact ⟨fun _ => ⟨fun _ => ⟨fun _ => ⟨fun _ => ⟨fun _ => ⟨fun z => absurd z (by decide), fun _ => ⟨fun _ => fin, fun z => absurd z (by decide)⟩⟩, fun z => absurd z (by decide)⟩, fun z => absurd z (by decide)⟩, fun z => absurd z (by decide)⟩, fun z => absurd z t1⟩, fun z => absurd rfl z⟩
  · exact name e97 (fun m3 r1 r2 r3 r4 => ot_M hF hp1 e97 c3 hlt r1 (r2 []).2.2.2.2.2.2.1 (r2 []).2.2.2.2.2.2.2.1 (fun z => by cases z) (fun _ m4 q => hno rfl m4 (rfr_trans r4 q)))
  · refine name e97 (fun m3 r1 r2 r3 r4 => ot_M hF hp1 e97 c3 hlt r1 (r2 []).2.2.2.2.2.2.1 (r2 []).2.2.2.2.2.2.2.1 (fun _ m4 x3' v1 v2 v3 v4 v5 v6 => ?_) (fun z => by cases z))
    rw [List.nil_append] at v1
    obtain ⟨u1, u2, u3, u4, u5, u6, u7⟩ := v1
    have hlt2 := (TKF_kd hF.1).2.1 k1 u6 (by omega)
    have hO := OI_tfr (r2 H) v4 v2 v3 (PT_lt hwd hp1 e97 c3)
    refine mr_out hF u1 u2 u6 hlt2 v2 v6 (fun m5 hk5 Q5 p0 p1 => ?_)
    obtain ⟨ht5, hw5, htok5, hpl5, haf5⟩ := hk5
    have et : m5.1 1 = 3 := htok5.trans ((tc_3 ((TKF_kd hF.1).1 k1 u6 hlt2)).mpr e58)
    have fin : Q5 2 m5 := p1 2 m5 (by decide) (fun z => by omega) (fun _ => by
      refine pg_M hF n (k1 + 1) k' false G hp2 [] m5 ⟨TxM_tk u1 ht5, haf5 (by omega), by rw [List.flatten_nil, List.append_nil]; exact MP_tk u3 ht5, by rw [List.flatten_nil, List.append_nil]; omega, by rw [List.flatten_nil, List.append_nil]; omega, by omega, by omega⟩ (OI_tfr hO (tfr_tk ht5) ((ht5.1 8 (by decide) (by decide) (by decide)).trans v2) ((ht5.1 9 (by decide) (by decide) (by decide)).trans v3) (by omega)) (fun z => by cases z) (fun _ m6 q => hno rfl m6 (rfr_trans r4 (rfr_trans (rfr_tfr v4) (rfr_trans (rfr_tfr (tfr_tk ht5)) q)))))
    exact ⟨fun z => absurd z (by decide), fun _ => ⟨fun _ => ⟨fun _ => ⟨fun z => absurd rfl z, fun _ => ⟨fun _ => fin, fun z => absurd et z⟩⟩, fun z => absurd z (by decide)⟩, fun z => absurd z (by decide)⟩⟩
  · refine name e97 (fun m3 r1 r2 r3 r4 => ot_M hF hp1 e97 c3 hlt r1 (r2 []).2.2.2.2.2.2.1 (r2 []).2.2.2.2.2.2.2.1 (fun _ m4 x3' v1 v2 v3 v4 v5 v6 => ?_) (fun z => by cases z))
    rw [List.nil_append] at v1
    obtain ⟨u1, u2, u3, u4, u5, u6, u7⟩ := v1
    have hlt2 := (TKF_kd hF.1).2.1 k1 u6 (by omega)
    have hO := OI_tfr (r2 H) v4 v2 v3 (PT_lt hwd hp1 e97 c3)
    refine mr_out hF u1 u2 u6 hlt2 v2 v6 (fun m5 hk5 Q5 p0 p1 => ?_)
    obtain ⟨ht5, hw5, htok5, hpl5, haf5⟩ := hk5
    have et : m5.1 1 = 3 := htok5.trans ((tc_3 ((TKF_kd hF.1).1 k1 u6 hlt2)).mpr e58)
    have fin : Q5 2 m5 := p1 2 m5 (by decide) (fun z => by omega) (fun _ => by
      refine pg_M hF n (k1 + 1) k2 true G hp2 [] m5 ⟨TxM_tk u1 ht5, haf5 (by omega), by rw [List.flatten_nil, List.append_nil]; exact MP_tk u3 ht5, by rw [List.flatten_nil, List.append_nil]; omega, by rw [List.flatten_nil, List.append_nil]; omega, by omega, by omega⟩ (OI_tfr hO (tfr_tk ht5) ((ht5.1 8 (by decide) (by decide) (by decide)).trans v2) ((ht5.1 9 (by decide) (by decide) (by decide)).trans v3) (by omega)) (fun _ m6 x3'' y1 y2 y3 y4 y5 => ?_) (fun z => by cases z)
      rw [List.nil_append] at y1 y2
      have r6 : rfr m m6 := rfr_trans r4 (rfr_trans (rfr_tfr v4) (rfr_trans (rfr_tfr (tfr_tk ht5)) (ofr_rfr y3)))
      have o6 : ofr (Ps.length : Int) (gN Ps : Int) m3 m6 := ofr_trans (ofr_tfr v4) (ofr_trans (ofr_tfr (tfr_tk ht5)) y3)
      rcases hq with ⟨e46, rfl, rfl, rfl⟩ | ⟨e46, rfl, rfl⟩
      · refine dot_M hF (Or.inr rfl) y1 y2 (DP_eq r3 (fun _ _ _ => ⟨rfl, rfl⟩) (fun j j0 j1 => o6.2.2.2.1 j j1) (fun j j0 j1 => o6.2.2.2.2 j j1)) e46 y4 (fun m7 _ w1 w2 => ?_)
        rw [if_pos rfl]
        exact hok rfl m7 w1 (rfr_trans r6 w2)
      · exact bad_M hF (Or.inr ⟨rfl, y5⟩) y1.1 y1.2.1 y1.2.2.2.2.2.1 y1.2.2.2.2.2.2 y2.2.2.2.2.2.2.1 e46 y4 (fun m7 q => hno rfl m7 (rfr_trans r6 q)))
    exact ⟨fun z => absurd z (by decide), fun _ => ⟨fun _ => ⟨fun _ => ⟨fun z => absurd rfl z, fun _ => ⟨fun _ => fin, fun z => absurd et z⟩⟩, fun z => absurd z (by decide)⟩, fun z => absurd z (by decide)⟩⟩
  · refine name e97 (fun m3 r1 r2 r3 r4 => ot_M hF hp1 e97 c3 hlt r1 (r2 []).2.2.2.2.2.2.1 (r2 []).2.2.2.2.2.2.2.1 (fun _ m4 x3' v1 v2 v3 v4 v5 v6 => ?_) (fun z => by cases z))
    rw [List.nil_append] at v1
    have hO := OI_tfr (r2 H) v4 v2 v3 (PT_lt hwd hp1 e97 c3)
    have r6 : rfr m m4 := rfr_trans r4 (rfr_tfr v4)
    have o6 : ofr (Ps.length : Int) (gN Ps : Int) m3 m4 := ofr_tfr v4
    rcases hq with ⟨e46, rfl, rfl, rfl⟩ | ⟨e46, rfl, rfl⟩
    · refine dot_M hF (H := H) (Gs := []) (Or.inl rfl) (by rw [List.flatten_nil, List.append_nil]; exact v1) hO (DP_eq r3 (fun _ _ _ => ⟨rfl, rfl⟩) (fun j j0 j1 => o6.2.2.2.1 j j1) (fun j j0 j1 => o6.2.2.2.2 j j1)) e46 v6 (fun m7 _ w1 w2 => ?_)
      rw [if_pos rfl]
      exact hok rfl m7 w1 (rfr_trans r6 w2)
    · exact bad_M hF (Or.inl ⟨rfl, e58⟩) v1.1 v1.2.1 v1.2.2.2.2.2.1 v1.2.2.2.2.2.2 v2 e46 v6 (fun m7 q => hno rfl m7 (rfr_trans r6 q))
/-- what is read, at the end -/
def RDn (Ps : List Part) (m : Ob) : Prop := m.1 4 = ((psL Ps).length : Int) ∧ m.1 5 = (Ps.length : Int) ∧ DP Ps (m.2.1 1) (m.2.2.2 0) (m.2.1 2) (m.2.1 3) (m.2.1 4) (m.2.1 5) ∧ (psL Ps).length ≤ 480 ∧ Ps.length ≤ 240 ∧ gN Ps ≤ 240
theorem CI_RDn (hF : TF t n0 kE wE pl en N) {Ps : List Part} {m m' : Ob} (h : CI t n0 en N Ps k m) (q : tkEq m m') : RDn Ps m' := by
  have hN := TF_N hF
  obtain ⟨c1, c2, c3, c4, c5, c6, c7, c8, c9, c10, c11, c12, c13⟩ := h
  refine ⟨(q.1 4 (by decide) (by decide) (by decide)).trans c5, (q.1 5 (by decide) (by decide) (by decide)).trans c7, ?_, by omega, by omega, by omega⟩
  rw [q.2.1, q.2.2]
  exact c13
theorem end_32 (hF : TF t n0 kE wE pl en N) (hk : 0 ≤ k) (hkN : k ≤ N) (e : kE k = 32) : k = N := by
  by_cases q : k < N
  · have := (TKF_kd hF.1).1 k hk q
    unfold kdOk sign8 at this
    omega
  · omega
/-- clauses, to the end of the text -/
theorem pcs_M (hF : TF t n0 kE wE pl en N) : ∀ (n : Nat) (k k' : Int) (ok : Bool) (Qs : List Part), PCs kE wE n k k' ok Qs → ∀ (Ps : List Part) (m : Ob), CI t n0 en N Ps k m → (ok = true → ∀ m', RDn (Ps ++ Qs) m' → rfr m m' → K (-1) m') → (ok = false → CF pl k' m K) → MR 0 0 0 0 k m K := by
  intro n
  induction n with
  | zero => intro k k' ok Qs z; exact absurd z id
  | succ n ih =>
    intro k k' ok Qs hp Ps m hC hok hno
    rcases hp with ⟨e32, rfl, rfl, rfl⟩ | ⟨e32, p, hp1, rfl, rfl⟩ | ⟨e32, k1, p, Qs', hp1, hp2, rfl⟩
    · have hC0 := hC
      obtain ⟨c1, c2, c3, c4, c5, c6, c7, c8, c9, c10, c11, c12, c13⟩ := hC
      have hk := end_32 hF c3 c4 e32
      subst hk
      refine mr_end hF c1 c2 (fun m' q => ?_)
      have e8 : m'.1 8 = 0 := (q.1 8 (by decide) (by decide) (by decide)).trans c11
      exact ⟨fun z => absurd e8 z, fun _ => ⟨fun _ => hok rfl m' (by rw [List.append_nil]; exact CI_RDn hF hC0 q) (rfr_tfr (tfr_tk q)), fun z => absurd rfl z⟩⟩
    · exact pc_M hF hp1 e32 hC (fun z => by cases z) hno
    · refine pc_M hF hp1 e32 hC (fun _ m' q1 q2 => ?_) (fun z => by cases z)
      refine ih k1 k' ok Qs' hp2 (Ps ++ [p]) m' q1 (fun z m2 r1 r2 => ?_) (fun z m2 r => hno z m2 (rfr_trans q2 r))
      rw [List.append_assoc, List.singleton_append] at r1
      exact hok z m2 r1 (rfr_trans q2 r2)
end MCL
/-- the object at the start of read -/
def rd1 (m : Ob) : Ob := sI (sA (sA (sI (sI (sI (sI (sI (sI m 3 0) 4 0) 5 0) 6 0) 8 0) 9 0) 2 0 0) 3 0 0) 7 0
theorem rd1_rfr (m : Ob) : rfr m (rd1 m) := by
  refine ⟨fun j z => ?_, fun j z => ?_, fun _ _ => rfl⟩
  · show (if j = 7 then _ else if j = 9 then _ else if j = 8 then _ else if j = 6 then _ else if j = 5 then _ else if j = 4 then _ else if j = 3 then _ else m.1 j) = _
    rw [if_neg (by omega), if_neg (by omega), if_neg (by omega), if_neg (by omega), if_neg (by omega), if_neg (by omega), if_neg (by omega)]
  · show (if j = 3 then _ else if j = 2 then _ else m.2.1 j) = _
    rw [if_neg (by omega), if_neg (by omega)]
theorem sp_M_read0 {m : Ob} {K : Int → Ob → Prop} {kE : Int → Int} {wE : Int → Nat} {pl en : Int → Int} {N k' : Int} {n : Nat} {ok : Bool} {Qs : List Part} (hF : TF (m.2.1 0) (m.1 0) kE wE pl en N) (hp : PCs kE wE n 0 k' ok Qs) (hok : ok = true → ∀ m', RDn Qs m' → rfr m m' → K (-1) m') (hno : ok = false → ∀ m', rfr m m' → K (pl k') m') : wp_M_read 0 m K := by
  refine ⟨fun _ => ?_, fun z => absurd rfl z⟩
  have hb0 : (0 : Int) ≤ 0 ∧ (0 : Int) < 242 := by decide
  refine ⟨hb0, hb0, 302, ?_⟩
  have hC : CI (m.2.1 0) (m.1 0) en N [] 0 (rd1 m) := ⟨⟨rfl, rfl⟩, rfl, by decide, (TKF_kd hF.1).2.2.2.1, rfl, by decide, rfl, by decide, rfl, by decide, rfl, rfl, fun A p C hA => by cases A <;> cases hA⟩
  exact pcs_M hF n 0 k' ok Qs hp [] (rd1 m) hC (fun z m' q1 q2 => hok z m' q1 (rfr_trans (rd1_rfr m) q2)) (fun z m' q => hno z m' (rfr_trans (rd1_rfr m) q)) 302 (by decide)
theorem sp_M_read1 {m : Ob} {K : Int → Ob → Prop} {kE : Int → Int} {wE : Int → Nat} {pl en : Int → Int} {N k' : Int} {ok : Bool} {p : Part} (hF : TF (m.2.1 0) (m.1 0) kE wE pl en N) (hp : PQu kE wE k' ok p) (hok : ok = true → ∀ m', RDn [p] m' → (∃ aF cF, MP 0 aF cF (pL p) m') → rfr m m' → K (-1) m') (hno : ok = false → ∀ m', rfr m m' → K (pl k') m') : wp_M_read 1 m K := by
  have hN := TF_N hF
  refine ⟨fun z => absurd z (by decide), fun _ => ?_⟩
  have hb0 : (0 : Int) ≤ 0 ∧ (0 : Int) < 242 := by decide
  refine ⟨hb0, hb0, 302, ?_⟩
  have hM : MP 0 ((rd1 m).2.1 1) ((rd1 m).2.2.2 0) [] (rd1 m) := MP_nil (by decide) rfl rfl
  have hS : STm (m.2.1 0) (m.1 0) en N 0 ((rd1 m).2.1 1) ((rd1 m).2.2.2 0) 0 ([] ++ ([] : List (List Sy)).flatten) (rd1 m) := ⟨⟨rfl, rfl⟩, rfl, hM, by decide, by decide, by decide, (TKF_kd hF.1).2.2.2.1⟩
  have hO : OI 0 0 0 [] [] 0 (rd1 m) := ⟨rfl, rfl, rfl, rfl, by decide, fun q hq => absurd hq (Nat.not_lt_zero _), rfl, rfl, by decide, by decide, by decide⟩
  have fr := rd1_rfr m
  suffices h : MR 1 2 0 0 0 (rd1 m) K from h 302 (by decide)
  obtain ⟨n, hp⟩ := hp
  rcases hp with ⟨G, hg, rfl⟩ | ⟨k2, G, hg, hq⟩
  · exact pg_M hF n 0 k' false G hg [] (rd1 m) hS hO (fun z => by cases z) (fun _ m' q => hno rfl m' (rfr_trans fr q))
  · refine pg_M hF n 0 k2 true G hg [] (rd1 m) hS hO (fun _ m' x3' v1 v2 v3 v4 v5 => ?_) (fun z => by cases z)
    rw [List.nil_append G] at v1 v2
    have f2 : rfr m m' := rfr_trans fr (ofr_rfr v3)
    have dot : kE k2 = 46 → (∀ m7, MP 0 ((rd1 m).2.1 1) ((rd1 m).2.2.2 0) ([] ++ G.flatten) m7 → CI (m.2.1 0) (m.1 0) en N ([] ++ [([], G)]) (k2 + 1) m7 → rfr m m7 → MR 1 4 0 0 (k2 + 1) m7 K) → MR 1 3 x3' 0 k2 m' K := fun e46 hc => by
      refine dot_M hF (Ps := []) (Or.inr rfl) v1 v2 (fun A p C hA => by cases A <;> cases hA) e46 v4 (fun m7 w0 w1 w2 => ?_)
      rw [if_neg (by decide)]
      exact hc m7 w0 w1 (rfr_trans f2 w2)
    rcases hq with ⟨e46, rfl, rfl⟩ | ⟨e46, e32, rfl, rfl⟩ | ⟨e46, e32, rfl, rfl, rfl⟩
    · exact bad_M hF (Or.inr ⟨rfl, v5⟩) v1.1 v1.2.1 v1.2.2.2.2.2.1 v1.2.2.2.2.2.2 v2.2.2.2.2.2.2.1 e46 v4 (fun m7 q => hno rfl m7 (rfr_trans f2 q))
    · refine dot e46 (fun m7 w0 w1 w2 => ?_)
      obtain ⟨c1, c2, c3, c4, c5, c6, c7, c8, c9, c10, c11, c12, c13⟩ := w1
      have hlt := (TKF_kd hF.1).2.1 (k2 + 1) c3 e32
      refine mr_out hF c1 c2 c3 hlt c11 (Or.inl rfl) (fun m8 hk8 Q q0 q1 => ?_)
      obtain ⟨ht, hw, htok, hpl, haf⟩ := hk8
      have fin : Q (-1) m8 := q0 m8 (by rw [hpl]; exact hno rfl m8 (rfr_trans w2 (rfr_tfr (tfr_tk ht))))
      exact ⟨fun z => absurd z (by decide), fun _ => ⟨fun _ => ⟨fun _ => ⟨fun _ => ⟨fun _ => ⟨fun z => absurd z (by decide), fun _ => ⟨fun _ => fin, fun z => absurd z (by decide)⟩⟩, fun z => absurd z (by decide)⟩, fun z => absurd z (by decide)⟩, fun z => absurd z (by decide)⟩, fun z => absurd z (by decide)⟩⟩
    · refine dot e46 (fun m7 w0 w1 w2 => ?_)
      have w1' := w1
      obtain ⟨c1, c2, c3, c4, c5, c6, c7, c8, c9, c10, c11, c12, c13⟩ := w1
      have hk := end_32 hF c3 c4 e32
      rw [hk] at c2 ⊢
      refine mr_end hF c1 c2 (fun m8 q => ?_)
      have e8 : m8.1 8 = 0 := (q.1 8 (by decide) (by decide) (by decide)).trans c11
      have fin : K (-1) m8 := hok rfl m8 (CI_RDn hF w1' q) ⟨_, _, MP_tk w0 q⟩ (rfr_trans w2 (rfr_tfr (tfr_tk q)))
      exact ⟨fun z => absurd e8 z, fun _ => ⟨fun z => absurd z (by decide), fun _ => ⟨fun z => absurd rfl z, fun _ => fin⟩⟩⟩
