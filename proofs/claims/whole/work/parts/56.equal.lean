/-! the search: the reference makes two terms equal -/
def PSt (FL : List Frm) (a : Int → Int) : List (Nat × Nat) → Prop
  | [] => True
  | q :: l => Lo FL (a (4 * (l.length : Int))) (a (4 * (l.length : Int) + 1)) q.1 ∧ Lo FL (a (4 * (l.length : Int) + 2)) (a (4 * (l.length : Int) + 3)) q.2 ∧ PSt FL a l
theorem PSt_eq {FL : List Frm} {a a' : Int → Int} : ∀ {l : List (Nat × Nat)}, PSt FL a l → (∀ y, y < 4 * (l.length : Int) → a' y = a y) → PSt FL a' l
  | [], _, _ => trivial
  | q :: l, h, e => by
    rw [List.length_cons] at e
    refine ⟨?_, ?_, PSt_eq h.2.2 (fun y hy => e y (by omega))⟩
    · rw [e _ (by omega), e _ (by omega)]; exact h.1
    · rw [e _ (by omega), e _ (by omega)]; exact h.2.1
/-- only bindings, stack and what was seen last have changed -/
def efr (m m' : Ob) : Prop := (∀ j, j ≠ 19 → j ≠ 20 → m'.1 j = m.1 j) ∧ (∀ j, j ≠ 22 → j ≠ 23 → j ≠ 24 → m'.2.1 j = m.2.1 j) ∧ m'.2.2 = m.2.2
theorem efr_trans {a b c : Ob} (h : efr a b) (g : efr b c) : efr a c := ⟨fun j z1 z2 => (g.1 j z1 z2).trans (h.1 j z1 z2), fun j z1 z2 z3 => (g.2.1 j z1 z2 z3).trans (h.2.1 j z1 z2 z3), g.2.2.trans h.2.2⟩
theorem efr_s {m m' : Ob} (h : sfr m m') : efr m m' := ⟨h.1, fun j _ _ z => h.2.1 j z, h.2.2⟩
theorem MW_efr {FL : List Frm} {m m' : Ob} (h : MW FL m) (f : efr m m') : MW FL m' := ⟨fun q hq => ⟨by
  have := (h.1 q hq).1
  unfold MCl at this ⊢
  rw [f.2.1 10 (by decide) (by decide) (by decide), f.2.1 11 (by decide) (by decide) (by decide), f.2.1 12 (by decide) (by decide) (by decide), f.2.1 13 (by decide) (by decide) (by decide), f.2.2]
  exact this, (h.1 q hq).2⟩, h.2⟩
theorem BdOk_cons {FL : List Frm} {m m' : Ob} {BL : List (Nat × Nat)} {v y : Nat} {p f : Int} (h : BdOk FL m BL) (hb : BOk (fE FL) (sl FL) ((v, y) :: BL)) (hv : v < 8 * FL.length) (hL : Lo FL p f y) (e22 : m'.2.1 22 = updI (m.2.1 22) (v : Int) p) (e23 : m'.2.1 23 = updI (m.2.1 23) (v : Int) f) : BdOk FL m' ((v, y) :: BL) := by
  refine ⟨hb, fun q hq => ?_, fun w hw => ⟨fun hn => ?_, fun z hz => ?_⟩⟩
  · rcases List.mem_cons.mp hq with e | e
    · rw [e]; exact hv
    · exact h.2.1 q e
  · have hn : (if w = v then some y else lk BL w) = none := hn
    by_cases e : w = v
    · rw [if_pos e] at hn; cases hn
    · rw [if_neg e] at hn
      rw [e22]
      unfold updI
      rw [if_neg (by omega)]
      exact (h.2.2 w hw).1 hn
  · have hz : (if w = v then some y else lk BL w) = some z := hz
    rw [e22, e23]
    unfold updI
    by_cases e : w = v
    · rw [if_pos e] at hz
      injection hz with hz
      subst hz
      rw [if_pos (by omega), if_pos (by omega)]
      exact hL
    · rw [if_neg e] at hz
      rw [if_neg (by omega), if_neg (by omega)]
      exact (h.2.2 w hw).2 z hz
theorem TL_rank {E : List Sy} {g ρ : Nat → Nat} (hW : WE E) (hg : ∀ x, x < E.length → g x < E.length ∧ ρ (g x) = ρ x) (hr : ∀ x, x < E.length → ∀ k, k < nA E x → ρ (ch E x k) < ρ x) : ∀ (d x : Nat), x < E.length → ∀ z ∈ TL E g d x, z < E.length ∧ ρ z ≤ ρ x
  | 0, x, hx, z, hz => absurd hz (List.not_mem_nil)
  | d + 1, x, hx, z, hz => by
    have h1 := hg x hx
    rcases List.mem_cons.mp hz with e | e
    · rw [e]; exact ⟨h1.1, by omega⟩
    · obtain ⟨l, hl, hz⟩ := List.mem_flatten.mp e
      obtain ⟨k, hk, e⟩ := List.mem_map.mp hl
      subst e
      have hk := List.mem_range.mp hk
      have h2 := TL_rank hW hg hr d _ (ch_lt hW h1.1 hk) z hz
      have h3 := hr _ h1.1 k hk
      exact ⟨h2.1, by omega⟩
section EQL
variable {FL : List Frm} {F : List Nat} {R0 : Nat → Nat → Prop} {a0 b0 : Nat} {m0 : Ob} {K : Int → Ob → Prop}
/-- the state of equalize, without the object -/
def EqI (FL : List Frm) (F : List Nat) (R0 : Nat → Nat → Prop) (a0 b0 : Nat) (BL : List (Nat × Nat)) (ws : List (Nat × Nat)) : Prop :=
  BOk (fE FL) (sl FL) BL ∧ (∀ q ∈ BL, q.1 < 8 * FL.length) ∧ (∃ D, ∀ x, x < (fE FL).length → Dp (fE FL) (fo (fE FL) (sl FL) BL) D x) ∧ FCl (fE FL) (fo (fE FL) (sl FL) BL) F ∧ (∀ q ∈ ws, q.1 < (fE FL).length ∧ q.2 < (fE FL).length ∧ fo (fE FL) (sl FL) BL q.1 ∈ F ∧ fo (fE FL) (sl FL) BL q.2 ∈ F) ∧ CB (fE FL) (fo (fE FL) (sl FL) BL) F (ws.map Prod.fst) ∧ (∀ N : List (Nat × Nat), (∀ q ∈ ws, TE (fE FL) (sl FL) (fo (fE FL) (sl FL) (N ++ BL)) q.1 q.2) → BOk (fE FL) (sl FL) (N ++ BL) → TE (fE FL) (sl FL) (fo (fE FL) (sl FL) (N ++ BL)) a0 b0) ∧ (∀ X, UnX (fE FL) R0 a0 b0 X → (∀ x, x < (fE FL).length → X x (fo (fE FL) (sl FL) BL x)) ∧ ∀ q ∈ ws, X q.1 q.2) ∧ (∀ x y, x < (fE FL).length → y < (fE FL).length → R0 x y → TE (fE FL) (sl FL) (fo (fE FL) (sl FL) BL) x y)
theorem BOk_app {E : List Sy} {s : Nat → Nat} : ∀ {N BL : List (Nat × Nat)}, BOk E s (N ++ BL) → BOk E s BL
  | [], _, h => h
  | q :: N, _, h => BOk_app (N := N) h.2.2.2
theorem fo_app {E : List Sy} {s : Nat → Nat} {x : Nat} (hx : x < E.length) : ∀ {N BL : List (Nat × Nat)}, BOk E s (N ++ BL) → fo E s (N ++ BL) x = fo E s (N ++ BL) (fo E s BL x)
  | [], BL, h => (fo_fo hx h).symm
  | q :: N, BL, h => by
    have ih := fo_app hx (N := N) (BL := BL) h.2.2.2
    show (if (en E (fo E s (N ++ BL) x)).1 = -1 ∧ s (fo E s (N ++ BL) x) = q.1 then q.2 else fo E s (N ++ BL) x) = (if (en E (fo E s (N ++ BL) (fo E s BL x))).1 = -1 ∧ s (fo E s (N ++ BL) (fo E s BL x)) = q.1 then q.2 else fo E s (N ++ BL) (fo E s BL x))
    rw [ih]
theorem TE_slot {E : List Sy} {s : Nat → Nat} {BL : List (Nat × Nat)} {a b : Nat} (hB : BOk E s BL) (ha : isV E a) (hb : isV E b) (h : s a = s b) : TE E s (fo E s BL) a b := by
  cases e : lk BL (s a) with
  | none =>
    have e1 : fo E s BL a = a := fo_un e
    have e2 : fo E s BL b = b := fo_un (by rw [← h]; exact e)
    exact TE_var (by rw [e1]; exact ha) (by rw [e2]; exact hb) (by rw [e1, e2]; exact h)
  | some y =>
    have e1 := fo_bd ha hB e
    have e2 := fo_bd hb hB (by rw [← h]; exact e)
    exact TE_of (e1.trans e2.symm)
theorem eq_free {L : Int → Ob → Prop} {x5 x6 x7 x8 x9 : Int} {m : Ob} (h6 : 0 ≤ x6 ∧ x6 < 1000) (h8 : 0 ≤ x8 ∧ x8 < 1000) (h : L x5 m) : M_equalize_286 L x5 x6 x7 x8 x9 1 m K := by
  refine ⟨fun _ => ⟨⟨by omega, by omega⟩, ⟨by omega, by omega⟩, 1, ⟨h6, fun _ => h, fun _ => ⟨fun _ => h, fun z => absurd z (by decide)⟩⟩⟩, fun z => absurd z (by decide)⟩
/-- the arguments of two names go onto the stack -/
theorem eq_args {L : Int → Ob → Prop} {m : Ob} {p1 f1 p2 f2 : Int} {a b : Nat} {ws : List (Nat × Nat)} (hMW : ∀ m', efr m m' → MW FL m') (h61 : FL.length ≤ 61) (h1 : Lo FL p1 f1 a) (h2 : Lo FL p2 f2 b) (he : en (fE FL) a = en (fE FL) b) (hl : ws.length ≤ 700) (hP : PSt FL (m.2.1 24) ws) (hL : ∀ m', sfr m m' → PSt FL (m'.2.1 24) (pq (fE FL) a b (nA (fE FL) a) ws) → L (4 * ((pq (fE FL) a b (nA (fE FL) a) ws).length : Int)) m') : M_equalize_328 L (4 * (ws.length : Int)) p1 f1 p2 f2 0 m K := by
  have hM := hMW m ⟨fun _ _ _ => rfl, fun _ _ _ _ => rfl, rfl⟩
  have l1 := Lo_en hM h1
  have l2 := Lo_en hM h2
  have n4 := nA_4 hM l1.2.2.2.2.1
  have hna : nA (fE FL) b = nA (fE FL) a := by unfold nA; rw [he]
  have loop : ∀ (fuel k : Nat) (m' : Ob), k ≤ nA (fE FL) a → nA (fE FL) a < fuel + k → sfr m m' → PSt FL (m'.2.1 24) (pq (fE FL) a b k ws) → M_equalize_343 L fuel (4 * ((pq (fE FL) a b k ws).length : Int)) p1 f1 f2 0 (p1 + ((ch (fE FL) a k - a : Nat) : Int)) (p2 + ((ch (fE FL) b k - b : Nat) : Int)) (k : Int) m' K := by
    intro fuel
    induction fuel with
    | zero => intro k m' k1 k2; omega
    | succ fuel ih =>
      intro k m' k1 k2 hs hP'
      have e10 : m'.2.1 10 p1 = (en (fE FL) a).1 := by rw [hs.2.1 10 (by decide)]; exact l1.2.2.2.2.2.1
      refine ⟨⟨l1.1, l1.2.1⟩, fun z => ?_, fun z => ⟨fun q => absurd rfl q, fun _ => ?_⟩⟩
      · rw [e10] at z
        have : k = nA (fE FL) a := by unfold nA at k1 k2 ⊢; omega
        subst this
        exact hL m' hs hP'
      · rw [e10] at z
        have hk : k < nA (fE FL) a := by unfold nA; omega
        have L1 := Lo_ch hM h1 hk
        have L2 := Lo_ch hM h2 (by rw [hna]; exact hk)
        have hpl := pq_len (fE FL) a b k ws
        have g1 := ch_gt (E := fE FL) a k
        have g2 := ch_gt (E := fE FL) b k
        have w1 := l1.2.2.1
        have w2 := l1.2.2.2.1
        have w3 := l2.2.2.1
        have w4 := l2.2.2.2.1
        refine ⟨⟨by omega, by omega⟩, ⟨by omega, by omega⟩, ⟨by omega, by omega⟩, ⟨by omega, by omega⟩, ⟨by omega, by omega⟩, ⟨by omega, by omega⟩, ⟨by omega, by omega⟩, ⟨by omega, by omega⟩, ?_⟩
        generalize hgen : (sA (sA (sA (sA m' 24 (4 * ((pq (fE FL) a b k ws).length : Int)) (p1 + ((ch (fE FL) a k - a : Nat) : Int))) 24 (4 * ((pq (fE FL) a b k ws).length : Int) + 1) f1) 24 (4 * ((pq (fE FL) a b k ws).length : Int) + 2) (p2 + ((ch (fE FL) b k - b : Nat) : Int))) 24 (4 * ((pq (fE FL) a b k ws).length : Int) + 3) f2) = m2
        have hs2 : sfr m m2 := by
          rw [← hgen]
          exact sfr_trans hs ⟨fun _ _ _ => rfl, fun j hj => (((if_neg hj).trans (if_neg hj)).trans (if_neg hj)).trans (if_neg hj), rfl⟩
        have e24 : ∀ y, m2.2.1 24 y = if y = 4 * ((pq (fE FL) a b k ws).length : Int) + 3 then f2 else if y = 4 * ((pq (fE FL) a b k ws).length : Int) + 2 then p2 + ((ch (fE FL) b k - b : Nat) : Int) else if y = 4 * ((pq (fE FL) a b k ws).length : Int) + 1 then f1 else if y = 4 * ((pq (fE FL) a b k ws).length : Int) then p1 + ((ch (fE FL) a k - a : Nat) : Int) else m'.2.1 24 y := fun y => by rw [← hgen]; rfl
        have hM2 := MW_sfr hM hs2
        refine sp_behind hM2 L1 (sp_behind hM2 L2 ⟨⟨by omega, by omega⟩, ?_⟩)
        have key := ih (k + 1) m2 (by omega) (by omega) hs2 ⟨?_, ?_, ?_⟩
        · rw [ch_succ, ch_succ] at key
          rw [show p1 + ((ch (fE FL) a k - a : Nat) : Int) + (tsz (fE FL) (ch (fE FL) a k) : Int) = p1 + ((ch (fE FL) a k + tsz (fE FL) (ch (fE FL) a k) - a : Nat) : Int) by omega, show p2 + ((ch (fE FL) b k - b : Nat) : Int) + (tsz (fE FL) (ch (fE FL) b k) : Int) = p2 + ((ch (fE FL) b k + tsz (fE FL) (ch (fE FL) b k) - b : Nat) : Int) by omega]
          have ek : 4 * ((pq (fE FL) a b k ws).length : Int) + 4 = 4 * ((pq (fE FL) a b (k + 1) ws).length : Int) := by rw [pq_len, pq_len]; omega
          rw [ek]
          exact key
        · rw [e24, if_neg (by omega), if_neg (by omega), if_neg (by omega), if_pos rfl, e24, if_neg (by omega), if_neg (by omega), if_pos rfl]
          exact L1
        · rw [e24, if_neg (by omega), if_pos rfl, e24, if_pos rfl]
          exact L2
        · exact PSt_eq hP' (fun y hy => by rw [e24, if_neg (by omega), if_neg (by omega), if_neg (by omega), if_neg (by omega)])
  have q1 := l1.1
  have q2 := l1.2.1
  have q3 := l2.1
  have q4 := l2.2.1
  refine ⟨⟨by omega, by omega⟩, ⟨by omega, by omega⟩, nA (fE FL) a + 1, ?_⟩
  have := loop (nA (fE FL) a + 1) 0 m (Nat.zero_le _) (by omega) (sfr_refl m) hP
  rw [ch_0, ch_0, show p1 + ((a + 1 - a : Nat) : Int) = p1 + 1 by omega, show p2 + ((b + 1 - b : Nat) : Int) = p2 + 1 by omega] at this
  exact this
theorem eq_main (hW : WE (fE FL)) (hMW : ∀ m, efr m0 m → MW FL m) (hFl : F.length ≤ 200) (h61 : FL.length ≤ 61) (hSV : ∀ x y, x < (fE FL).length → y < (fE FL).length → isV (fE FL) x → isV (fE FL) y → sl FL x = sl FL y → R0 x y)
    (hK1 : ∀ (BL : List (Nat × Nat)) (m' : Ob), efr m0 m' → BdOk FL m' BL → EqI FL F R0 a0 b0 BL [] → K 1 m')
    (hK0 : (∀ X, UnX (fE FL) R0 a0 b0 X → Acy (fE FL) X → False) → ∀ m', efr m0 m' → K 0 m') :
    ∀ (u w D : Nat) (BL ws : List (Nat × Nat)), 8 * FL.length < BL.length + u → (ws.map (fun q => (TL (fE FL) (fo (fE FL) (sl FL) BL) D q.1).length)).sum < w → (∀ x, x < (fE FL).length → Dp (fE FL) (fo (fE FL) (sl FL) BL) D x) → EqI FL F R0 a0 b0 BL ws → ∃ n, ∀ m, efr m0 m → BdOk FL m BL → PSt FL (m.2.1 24) ws → M_equalize_32 n (4 * (ws.length : Int)) m K := by
  intro u
  induction u with
  | zero =>
    intro w D BL ws hu _ _ hI
    have h1 := nd_len (8 * FL.length) (BL.map Prod.fst) (BOk_nd hI.1) (fun c hc => by
      obtain ⟨q, hq, e⟩ := List.mem_map.mp hc
      subst e
      exact hI.2.1 q hq)
    rw [List.length_map] at h1
    omega
  | succ u ihu =>
    intro w
    induction w with
    | zero => intro D BL ws _ h; omega
    | succ w ihw =>
      intro D BL ws hu hw hD hI
      cases ws with
      | nil =>
        refine ⟨1, fun m hm hB hP => ⟨fun _ => hK1 BL m hm hB hI, fun z => ?_⟩⟩
        rw [List.length_nil] at z; omega
      | cons q ws =>
        obtain ⟨x, y⟩ := q
        have hI0 := hI
        obtain ⟨iB, iS, -, iF, iW, iC, iT, iX, iR⟩ := hI
        obtain ⟨hx, hy, fx, fy⟩ := iW (x, y) List.mem_cons_self
        have hx : x < (fE FL).length := hx
        have hy : y < (fE FL).length := hy
        have fx : fo (fE FL) (sl FL) BL x ∈ F := fx
        have fy : fo (fE FL) (sl FL) BL y ∈ F := fy
        have hg := fo_g iB
        have gx := hg x hx
        have gy := hg y hy
        have hcl := CB_len iC
        rw [List.length_map] at hcl
        have iW' : ∀ q ∈ ws, q.1 < (fE FL).length ∧ q.2 < (fE FL).length ∧ fo (fE FL) (sl FL) BL q.1 ∈ F ∧ fo (fE FL) (sl FL) BL q.2 ∈ F := fun q hq => iW q (List.mem_cons_of_mem _ hq)
        have hpos : 1 ≤ (TL (fE FL) (fo (fE FL) (sl FL) BL) D x).length := TL_pos (hD x hx)
        rw [List.map_cons, List.sum_cons] at hw
        have hw : (TL (fE FL) (fo (fE FL) (sl FL) BL) D x).length + (ws.map (fun q => (TL (fE FL) (fo (fE FL) (sl FL) BL) D q.1).length)).sum < w + 1 := hw
        -- all that one may take for equal
        have hXf : ∀ X, UnX (fE FL) R0 a0 b0 X → X (fo (fE FL) (sl FL) BL x) (fo (fE FL) (sl FL) BL y) := fun X hX => by
          obtain ⟨x1, x2⟩ := iX X hX
          exact hX.1.2.2 _ _ _ (hX.1.2.1 _ _ (x1 x hx)) (hX.1.2.2 _ _ _ (x2 (x, y) List.mem_cons_self) (x1 y hy))
        -- what both follows lead to
        have enter : ∀ n : Nat, (∀ m2 p1 f1 p2 f2, efr m0 m2 → BdOk FL m2 BL → PSt FL (m2.2.1 24) ws → Lo FL p1 f1 (fo (fE FL) (sl FL) BL x) → Lo FL p2 f2 (fo (fE FL) (sl FL) BL y) → ∀ s0 : Int, ((s0 = 0 ∧ ¬ isV (fE FL) (fo (fE FL) (sl FL) BL x)) ∨ (s0 = 1 ∧ isV (fE FL) (fo (fE FL) (sl FL) BL x))) → M_equalize_125 (fun x5 m' => M_equalize_32 n x5 m' K) (4 * (ws.length : Int)) p1 f1 p2 f2 s0 m2 K) → ∀ m, efr m0 m → BdOk FL m BL → PSt FL (m.2.1 24) ((x, y) :: ws) → M_equalize_32 (n + 1) (4 * (((x, y) :: ws).length : Int)) m K := fun n hn m hm hB hP => by
          rw [List.length_cons]
          refine ⟨fun z => by omega, fun _ => ?_⟩
          have t : 4 * ((ws.length + 1 : Nat) : Int) - 4 = 4 * (ws.length : Int) := by omega
          rw [t]
          refine ⟨⟨by omega, by omega⟩, ⟨by omega, by omega⟩, ⟨by omega, by omega⟩, ⟨by omega, by omega⟩, ?_⟩
          refine sp_follow (hMW m hm) hB hP.1 (fun p1 f1 hL1 => ⟨⟨by omega, by omega⟩, ⟨by omega, by omega⟩, ⟨by omega, by omega⟩, ⟨by omega, by omega⟩, ?_⟩)
          have s1 := sfr_19 m p1 f1
          refine sp_follow (MW_sfr (hMW m hm) s1) (BdOk_sfr hB s1) hP.2.1 (fun p2 f2 hL2 => ?_)
          have s2 := sfr_trans s1 (sfr_19 (m19 m p1 f1) p2 f2)
          have hl := Lo_en (hMW m hm) hL1
          have hn' := hn (m19 (m19 m p1 f1) p2 f2) p1 f1 p2 f2 (efr_trans hm (efr_s s2)) (BdOk_sfr hB s2) hP.2.2 hL1 hL2
          refine ⟨⟨hl.1, hl.2.1⟩, fun z => hn' 0 (Or.inl ⟨rfl, fun w => z ?_⟩), fun z => hn' 1 (Or.inr ⟨rfl, ?_⟩)⟩
          · show m.2.1 10 p1 = -1
            rw [hl.2.2.2.2.2.1]; exact w
          · have z : m.2.1 10 p1 = -1 := z
            rw [hl.2.2.2.2.2.1] at z
            exact z
        -- a binding
        have bind : ∀ (v z : Nat), z < (fE FL).length → fo (fE FL) (sl FL) BL z = z → z ∈ F → (∀ t, t < (fE FL).length → isV (fE FL) t → sl FL t = v → ∀ X, UnX (fE FL) R0 a0 b0 X → X t z) → lk BL v = none → v < 8 * FL.length → ¬ (isV (fE FL) z ∧ sl FL z = v) → ((fo (fE FL) (sl FL) BL x = z ∧ isV (fE FL) (fo (fE FL) (sl FL) BL y) ∧ sl FL (fo (fE FL) (sl FL) BL y) = v) ∨ (fo (fE FL) (sl FL) BL y = z ∧ isV (fE FL) (fo (fE FL) (sl FL) BL x) ∧ sl FL (fo (fE FL) (sl FL) BL x) = v)) → ∃ n, ∀ (m2 : Ob) (pz fz : Int), efr m0 m2 → BdOk FL m2 BL → PSt FL (m2.2.1 24) ws → Lo FL pz fz z → ∀ Q : Int → Ob → Prop, ((∀ X, UnX (fE FL) R0 a0 b0 X → Acy (fE FL) X → False) → ∀ m3, efr m0 m3 → Q 0 m3) → (∀ m3, efr m0 m3 → M_equalize_32 n (4 * (ws.length : Int)) m3 K → Q 1 m3) → wp_M_bind (v : Int) pz fz (4 * (ws.length : Int)) m2 Q := fun v z hz hzz hzF hXt hvn hv8 hne hor => by
          have hne' : ¬ (isV (fE FL) z ∧ sl FL z = v) := hne
          by_cases hoc : Oc (fE FL) (fo (fE FL) (sl FL) BL) (sl FL) v (z, D)
          · refine ⟨0, fun m2 pz fz e2 hB2 hP2 hLz Q hQ0 hQ1 => ?_⟩
            refine sp_stands (hMW m2 e2) hB2 hLz (hD z hz) (by omega) (by omega) iF hFl (by rw [hzz]; exact hzF) (fun _ m3 s3 _ => ⟨fun q => absurd q (by decide), fun _ => hQ0 (fun X hX hA => ?_) m3 (efr_trans e2 (efr_s s3))⟩) (fun q => absurd hoc q)
            obtain ⟨ρ, r1, r2⟩ := hA
            obtain ⟨x1, -⟩ := iX X hX
            have hgr : ∀ c, c < (fE FL).length → fo (fE FL) (sl FL) BL c < (fE FL).length ∧ ρ (fo (fE FL) (sl FL) BL c) = ρ c := fun c hc => ⟨(hg c hc).1, r1 _ _ (hg c hc).1 hc (hX.1.2.1 _ _ (x1 c hc))⟩
            cases D with
            | zero => exact absurd (hD z hz) id
            | succ D =>
              rcases Oc_succ.mp hoc with q | ⟨k, hk, t, ht, tv, ts⟩
              · rw [hzz] at q; exact hne q
              · rw [hzz] at hk ht
                have hlt := TL_rank hW hgr r2 D _ (ch_lt hW hz hk) t ht
                have h3 := r2 z hz k hk
                have h4 := r1 t z hlt.1 hz (hXt t hlt.1 tv ts X hX)
                omega
          · have hBO : BOk (fE FL) (sl FL) ((v, z) :: BL) := ⟨hvn, hz, fun w => ⟨by
                have := (fo_fin hz iB).2
                rw [hzz] at this
                exact this w, fun e => hne ⟨w, e⟩⟩, iB⟩
            obtain ⟨D', hD'⟩ := fin_bind iB hz hzz hne hD hoc hW
            have keyF : ∀ t, fo (fE FL) (sl FL) BL t ∈ F → fo (fE FL) (sl FL) ((v, z) :: BL) t ∈ F := fun t ht => by
              by_cases q : isV (fE FL) (fo (fE FL) (sl FL) BL t) ∧ sl FL (fo (fE FL) (sl FL) BL t) = v
              · rw [fo_cons_eq q]; exact hzF
              · rw [fo_cons_ne q]; exact ht
            have hI2 : EqI FL F R0 a0 b0 ((v, z) :: BL) ws := by
              refine ⟨hBO, fun q hq => ?_, ⟨D', hD'⟩, FCl_ext iF hzF, fun q hq => ⟨(iW' q hq).1, (iW' q hq).2.1, keyF _ (iW' q hq).2.2.1, keyF _ (iW' q hq).2.2.2⟩, CB_ext iC.2, fun N hN hBN => ?_, fun X hX => ?_, fun t t' ht ht' hr n => TE_ext (iR t t' ht ht' hr)⟩
              · rcases List.mem_cons.mp hq with e | e
                · rw [e]; exact hv8
                · exact iS q e
              · have eN : N ++ (v, z) :: BL = (N ++ [(v, z)]) ++ BL := by rw [List.append_assoc]; rfl
                rw [eN]
                refine iT (N ++ [(v, z)]) (fun q hq => ?_) (by rw [← eN]; exact hBN)
                rw [← eN]
                rcases List.mem_cons.mp hq with e | e
                · subst e
                  have e1 := fo_app hx hBN
                  have e2 := fo_app hy hBN
                  refine TE_of ?_
                  rw [e1, e2]
                  rcases hor with ⟨w1, w2, w3⟩ | ⟨w1, w2, w3⟩
                  · have q1 : fo (fE FL) (sl FL) ((v, z) :: BL) y = z := fo_cons_eq ⟨w2, w3⟩
                    have q2 : fo (fE FL) (sl FL) ((v, z) :: BL) x = z := by
                      rw [fo_cons_ne (by rw [w1]; exact hne'), w1]
                    rw [q1, q2]
                  · have q1 : fo (fE FL) (sl FL) ((v, z) :: BL) x = z := fo_cons_eq ⟨w2, w3⟩
                    have q2 : fo (fE FL) (sl FL) ((v, z) :: BL) y = z := by
                      rw [fo_cons_ne (by rw [w1]; exact hne'), w1]
                    rw [q1, q2]
                · exact hN q e
              · obtain ⟨x1, x2⟩ := iX X hX
                refine ⟨fun t ht => ?_, fun q hq => x2 q (List.mem_cons_of_mem _ hq)⟩
                by_cases q : isV (fE FL) (fo (fE FL) (sl FL) BL t) ∧ sl FL (fo (fE FL) (sl FL) BL t) = v
                · rw [fo_cons_eq q]
                  exact hX.1.2.2 _ _ _ (x1 t ht) (hXt _ (hg t ht).1 q.1 q.2 X hX)
                · rw [fo_cons_ne q]; exact x1 t ht
            obtain ⟨n, hn⟩ := ihu ((ws.map (fun q => (TL (fE FL) (fo (fE FL) (sl FL) ((v, z) :: BL)) D' q.1).length)).sum + 1) D' ((v, z) :: BL) ws (by rw [List.length_cons]; omega) (Nat.lt_succ_self _) hD' hI2
            refine ⟨n, fun m2 pz fz e2 hB2 hP2 hLz Q hQ0 hQ1 => ?_⟩
            refine sp_stands (hMW m2 e2) hB2 hLz (hD z hz) (by omega) (by omega) iF hFl (by rw [hzz]; exact hzF) (fun q => absurd q hoc) (fun _ m3 s3 hlow => ⟨fun _ => ⟨⟨by omega, by omega⟩, ⟨by omega, by omega⟩, ?_⟩, fun q => absurd rfl q⟩)
            have e4 : efr m0 (sA (sA m3 22 (v : Int) pz) 23 (v : Int) fz) := efr_trans (efr_trans e2 (efr_s s3)) ⟨fun _ _ _ => rfl, fun j z1 z2 z3 => (if_neg z2).trans (if_neg z1), rfl⟩
            refine hQ1 _ e4 ?_
            refine hn _ e4 (BdOk_cons (BdOk_sfr hB2 s3) hBO hv8 hLz rfl rfl) ?_
            show PSt FL (m3.2.1 24) ws
            exact PSt_eq hP2 (fun t ht => hlow t ht)
        -- the places of the variables
        have slot : ∀ (m2 : Ob) (p f : Int) (t : Nat), efr m0 m2 → Lo FL p f t → isV (fE FL) t → R32 (8 * f) ∧ (0 ≤ p ∧ p < 1000) ∧ m2.2.2.2 2 p < 2147483648 ∧ R32 (8 * f + (m2.2.2.2 2 p : Int)) ∧ 8 * f + (m2.2.2.2 2 p : Int) = (sl FL t : Int) := fun m2 p f t e2 hL hv => by
          have l := Lo_en (hMW m2 e2) hL
          have h8 := l.2.2.2.2.2.2.2 hv
          have w1 := l.2.2.1
          have w2 := l.2.2.2.1
          have w3 := h8.2.1
          have w4 := h8.1
          exact ⟨⟨by omega, by omega⟩, ⟨l.1, l.2.1⟩, by omega, ⟨by omega, by omega⟩, by omega⟩
        have tv : ∀ t, t < (fE FL).length → isV (fE FL) (fo (fE FL) (sl FL) BL t) → lk BL (sl FL (fo (fE FL) (sl FL) BL t)) = none := fun t ht hv => (fo_fin ht iB).2 hv
        have t8 : ∀ (m2 : Ob) (p f : Int) (t : Nat), efr m0 m2 → Lo FL p f t → isV (fE FL) t → sl FL t < 8 * FL.length := fun m2 p f t e2 hL hv => ((Lo_en (hMW m2 e2) hL).2.2.2.2.2.2.2 hv).2.2
        have slt : ∀ t, t < (fE FL).length → isV (fE FL) t → (∃ p f, Lo FL p f t) → sl FL t < 8 * FL.length := fun t ht hv ⟨p, f, hL⟩ => t8 m0 p f t ⟨fun _ _ _ => rfl, fun _ _ _ _ => rfl, rfl⟩ hL hv
        have pos : ∀ t, t < (fE FL).length → ∃ p f, Lo FL p f t := by
          have : ∀ (C A : List Frm) (t : Nat), FL = A ++ C → (fE A).length ≤ t → t < (fE FL).length → ∃ p f, Lo FL p f t := by
            intro C
            induction C with
            | nil =>
              intro A t hA h1 h2
              rw [List.append_nil] at hA
              rw [hA] at h2
              omega
            | cons q C ih =>
              intro A t hA h1 h2
              obtain ⟨c, P⟩ := q
              by_cases w : t < (fE A).length + (pL P).length
              · exact ⟨_, _, A, c, P, C, t - (fE A).length, hA, rfl, by omega, rfl, by omega⟩
              · refine ih (A ++ [(c, P)]) t (by rw [hA, List.append_assoc]; rfl) ?_ h2
                rw [fE_app, List.length_append]
                show (fE A).length + (pL P ++ fE []).length ≤ t
                rw [List.length_append]
                show (fE A).length + ((pL P).length + 0) ≤ t
                omega
          exact fun t ht => this FL [] t rfl (Nat.zero_le _) ht
        by_cases vx : isV (fE FL) (fo (fE FL) (sl FL) BL x)
        · have hXt : ∀ t, t < (fE FL).length → isV (fE FL) t → sl FL t = sl FL (fo (fE FL) (sl FL) BL x) → ∀ X, UnX (fE FL) R0 a0 b0 X → X t (fo (fE FL) (sl FL) BL y) := fun t ht vt es X hX => hX.1.2.2 _ _ _ (hX.2.2.1 _ _ ht gx.1 (hSV _ _ ht gx.1 vt vx es)) (hXf X hX)
          have hb := fun hne => bind (sl FL (fo (fE FL) (sl FL) BL x)) (fo (fE FL) (sl FL) BL y) gy.1 gy.2 fy hXt (tv x hx vx) (slt _ gx.1 vx (pos _ gx.1)) hne (Or.inr ⟨rfl, vx, rfl⟩)
          by_cases vy : isV (fE FL) (fo (fE FL) (sl FL) BL y)
          · by_cases es : sl FL (fo (fE FL) (sl FL) BL x) = sl FL (fo (fE FL) (sl FL) BL y)
            · -- the same variable
              have hI2 : EqI FL F R0 a0 b0 BL ws := by
                refine ⟨iB, iS, ⟨D, hD⟩, iF, iW', iC.2, fun N hN hBN => iT N (fun q hq => ?_) hBN, fun X hX => ⟨(iX X hX).1, fun q hq => (iX X hX).2 q (List.mem_cons_of_mem _ hq)⟩, iR⟩
                rcases List.mem_cons.mp hq with e | e
                · subst e
                  have q1 : TE (fE FL) (sl FL) (fo (fE FL) (sl FL) (N ++ BL)) x (fo (fE FL) (sl FL) BL x) := TE_of (fo_app hx hBN)
                  have q2 : TE (fE FL) (sl FL) (fo (fE FL) (sl FL) (N ++ BL)) y (fo (fE FL) (sl FL) BL y) := TE_of (fo_app hy hBN)
                  exact TE_eqv.2.2 _ _ _ q1 (TE_eqv.2.2 _ _ _ (TE_slot hBN vx vy es) (TE_eqv.2.1 _ _ q2))
                · exact hN q e
              obtain ⟨n, hn⟩ := ihw D BL ws hu (by omega) hD hI2
              refine ⟨n + 1, enter n (fun m2 p1 f1 p2 f2 e2 hB2 hP2 hL1 hL2 s0 hs0 => ?_)⟩
              have h1 : s0 = 1 := by
                rcases hs0 with ⟨-, w⟩ | ⟨w, -⟩
                · exact absurd vx w
                · exact w
              subst h1
              obtain ⟨a1, a2, a3, a4, a5⟩ := slot m2 p1 f1 _ e2 hL1 vx
              obtain ⟨c1, c2, c3, c4, c5⟩ := slot m2 p2 f2 _ e2 hL2 vy
              have e10 : m2.2.1 10 p2 = -1 := by rw [(Lo_en (hMW m2 e2) hL2).2.2.2.2.2.1]; exact vy
              have fin := eq_free (K := K) (L := fun x5 m' => M_equalize_32 n x5 m' K) (x5 := 4 * (ws.length : Int)) (x6 := p1) (x7 := f1) (x8 := p2) (x9 := f2) (m := m2) a2 c2 (hn m2 e2 hB2 hP2)
              have f217 : M_equalize_217 (fun x5 m' => M_equalize_32 n x5 m' K) (4 * (ws.length : Int)) p1 f1 p2 f2 1 1 (8 * f1 + (m2.2.2.2 2 p1 : Int)) (8 * f2 + (m2.2.2.2 2 p2 : Int)) 1 m2 K := ⟨fun _ => ⟨fun z => absurd z (by decide), fun _ => ⟨fun _ => fin, fun z => absurd z (by decide)⟩⟩, fun z => absurd z (by decide)⟩
              exact ⟨c2, fun z => absurd e10 z, fun _ => ⟨fun z => absurd z (by decide), fun _ => ⟨a1, a2, a3, a4, fun z => absurd z (by decide), fun _ => ⟨c1, c2, c3, c4, fun z => absurd z (by decide), fun _ => ⟨fun z => absurd z (by decide), fun _ => ⟨fun z => absurd (by omega) z, fun _ => f217⟩⟩⟩⟩⟩⟩
            · obtain ⟨n, hn⟩ := hb (fun w => es w.2.symm)
              refine ⟨n + 1, enter n (fun m2 p1 f1 p2 f2 e2 hB2 hP2 hL1 hL2 s0 hs0 => ?_)⟩
              have h1 : s0 = 1 := by
                rcases hs0 with ⟨-, w⟩ | ⟨w, -⟩
                · exact absurd vx w
                · exact w
              subst h1
              obtain ⟨a1, a2, a3, a4, a5⟩ := slot m2 p1 f1 _ e2 hL1 vx
              obtain ⟨c1, c2, c3, c4, c5⟩ := slot m2 p2 f2 _ e2 hL2 vy
              have e10 : m2.2.1 10 p2 = -1 := by rw [(Lo_en (hMW m2 e2) hL2).2.2.2.2.2.1]; exact vy
              have f217 : M_equalize_217 (fun x5 m' => M_equalize_32 n x5 m' K) (4 * (ws.length : Int)) p1 f1 p2 f2 1 1 (8 * f1 + (m2.2.2.2 2 p1 : Int)) (8 * f2 + (m2.2.2.2 2 p2 : Int)) 0 m2 K := by
                refine ⟨fun _ => ⟨fun z => absurd z (by decide), fun _ => ⟨fun z => absurd rfl z, fun _ => ⟨fun z => absurd z (by decide), fun _ => ?_⟩⟩⟩, fun z => absurd z (by decide)⟩
                rw [a5]
                exact hn m2 p2 f2 e2 hB2 hP2 hL2 _ (fun hno m3 e3 => ⟨fun _ => hK0 hno m3 e3, fun z => absurd rfl z⟩) (fun m3 e3 hq => ⟨fun z => absurd z (by decide), fun _ => eq_free a2 c2 hq⟩)
              exact ⟨c2, fun z => absurd e10 z, fun _ => ⟨fun z => absurd z (by decide), fun _ => ⟨a1, a2, a3, a4, fun z => absurd z (by decide), fun _ => ⟨c1, c2, c3, c4, fun z => absurd z (by decide), fun _ => ⟨fun z => absurd z (by decide), fun _ => ⟨fun _ => f217, fun z => absurd (by omega) es⟩⟩⟩⟩⟩⟩
          · obtain ⟨n, hn⟩ := hb (fun w => vy w.1)
            refine ⟨n + 1, enter n (fun m2 p1 f1 p2 f2 e2 hB2 hP2 hL1 hL2 s0 hs0 => ?_)⟩
            have h1 : s0 = 1 := by
              rcases hs0 with ⟨-, w⟩ | ⟨w, -⟩
              · exact absurd vx w
              · exact w
            subst h1
            obtain ⟨a1, a2, a3, a4, a5⟩ := slot m2 p1 f1 _ e2 hL1 vx
            have l2 := Lo_en (hMW m2 e2) hL2
            have c2 : 0 ≤ p2 ∧ p2 < 1000 := ⟨l2.1, l2.2.1⟩
            have e10 : ¬ m2.2.1 10 p2 = -1 := by rw [l2.2.2.2.2.2.1]; exact vy
            have f217 : M_equalize_217 (fun x5 m' => M_equalize_32 n x5 m' K) (4 * (ws.length : Int)) p1 f1 p2 f2 1 0 (8 * f1 + (m2.2.2.2 2 p1 : Int)) (-1) 0 m2 K := by
              refine ⟨fun _ => ⟨fun z => absurd z (by decide), fun _ => ⟨fun z => absurd rfl z, fun _ => ⟨fun z => absurd z (by decide), fun _ => ?_⟩⟩⟩, fun z => absurd z (by decide)⟩
              rw [a5]
              exact hn m2 p2 f2 e2 hB2 hP2 hL2 _ (fun hno m3 e3 => ⟨fun _ => hK0 hno m3 e3, fun z => absurd rfl z⟩) (fun m3 e3 hq => ⟨fun z => absurd z (by decide), fun _ => eq_free a2 c2 hq⟩)
            exact ⟨c2, fun _ => ⟨fun z => absurd z (by decide), fun _ => ⟨a1, a2, a3, a4, fun _ => ⟨fun z => absurd z (by decide), fun _ => ⟨fun _ => f217, fun z => absurd rfl z⟩⟩, fun z => absurd rfl z⟩⟩, fun z => absurd z e10⟩
        · by_cases vy : isV (fE FL) (fo (fE FL) (sl FL) BL y)
          · have hXt : ∀ t, t < (fE FL).length → isV (fE FL) t → sl FL t = sl FL (fo (fE FL) (sl FL) BL y) → ∀ X, UnX (fE FL) R0 a0 b0 X → X t (fo (fE FL) (sl FL) BL x) := fun t ht vt es X hX => hX.1.2.2 _ _ _ (hX.2.2.1 _ _ ht gy.1 (hSV _ _ ht gy.1 vt vy es)) (hX.1.2.1 _ _ (hXf X hX))
            obtain ⟨n, hn⟩ := bind (sl FL (fo (fE FL) (sl FL) BL y)) (fo (fE FL) (sl FL) BL x) gx.1 gx.2 fx hXt (tv y hy vy) (slt _ gy.1 vy (pos _ gy.1)) (fun w => vx w.1) (Or.inl ⟨rfl, vy, rfl⟩)
            refine ⟨n + 1, enter n (fun m2 p1 f1 p2 f2 e2 hB2 hP2 hL1 hL2 s0 hs0 => ?_)⟩
            have h1 : s0 = 0 := by
              rcases hs0 with ⟨w, -⟩ | ⟨-, w⟩
              · exact w
              · exact absurd w vx
            subst h1
            obtain ⟨c1, c2, c3, c4, c5⟩ := slot m2 p2 f2 _ e2 hL2 vy
            have l1 := Lo_en (hMW m2 e2) hL1
            have a2 : 0 ≤ p1 ∧ p1 < 1000 := ⟨l1.1, l1.2.1⟩
            have e10 : m2.2.1 10 p2 = -1 := by rw [(Lo_en (hMW m2 e2) hL2).2.2.2.2.2.1]; exact vy
            have f217 : M_equalize_217 (fun x5 m' => M_equalize_32 n x5 m' K) (4 * (ws.length : Int)) p1 f1 p2 f2 0 1 (-1) (8 * f2 + (m2.2.2.2 2 p2 : Int)) 0 m2 K := by
              refine ⟨fun z => absurd rfl z, fun _ => ⟨fun z => absurd z (by decide), fun _ => ⟨fun z => absurd z (by decide), fun _ => ⟨fun z => absurd rfl z, fun _ => ⟨fun _ => ?_, fun z => absurd rfl z⟩⟩⟩⟩⟩
              rw [c5]
              exact hn m2 p1 f1 e2 hB2 hP2 hL1 _ (fun hno m3 e3 => ⟨fun z => absurd rfl z, fun _ => hK0 hno m3 e3⟩) (fun m3 e3 hq => ⟨fun _ => eq_free a2 c2 hq, fun z => absurd z (by decide)⟩)
            exact ⟨c2, fun z => absurd e10 z, fun _ => ⟨fun _ => ⟨fun z => absurd z (by decide), fun _ => ⟨c1, c2, c3, c4, fun _ => f217, fun z => absurd rfl z⟩⟩, fun z => absurd rfl z⟩⟩
          · by_cases he : en (fE FL) (fo (fE FL) (sl FL) BL x) = en (fE FL) (fo (fE FL) (sl FL) BL y)
            · -- two names that are the same
              have hna : nA (fE FL) (fo (fE FL) (sl FL) BL y) = nA (fE FL) (fo (fE FL) (sl FL) BL x) := by unfold nA; rw [he]
              cases D with
              | zero => exact absurd (hD x hx) id
              | succ D =>
                have hstab : ∀ k, k < nA (fE FL) (fo (fE FL) (sl FL) BL x) → TL (fE FL) (fo (fE FL) (sl FL) BL) (D + 1) (ch (fE FL) (fo (fE FL) (sl FL) BL x) k) = TL (fE FL) (fo (fE FL) (sl FL) BL) D (ch (fE FL) (fo (fE FL) (sl FL) BL x) k) := fun k hk => TL_stable (hD x hx k hk)
                have hsum : ((pq (fE FL) (fo (fE FL) (sl FL) BL x) (fo (fE FL) (sl FL) BL y) (nA (fE FL) (fo (fE FL) (sl FL) BL x)) ws).map (fun q => (TL (fE FL) (fo (fE FL) (sl FL) BL) (D + 1) q.1).length)).sum < w := by
                  rw [pq_sum]
                  have e1 : (TL (fE FL) (fo (fE FL) (sl FL) BL) (D + 1) x).length = 1 + ((List.range (nA (fE FL) (fo (fE FL) (sl FL) BL x))).map (fun k => (TL (fE FL) (fo (fE FL) (sl FL) BL) (D + 1) (ch (fE FL) (fo (fE FL) (sl FL) BL x) k)).length)).sum := by
                    show (((List.range (nA (fE FL) (fo (fE FL) (sl FL) BL x))).map (fun k => TL (fE FL) (fo (fE FL) (sl FL) BL) D (ch (fE FL) (fo (fE FL) (sl FL) BL x) k))).flatten).length + 1 = _
                    rw [List.length_flatten, List.map_map]
                    have : ((List.range (nA (fE FL) (fo (fE FL) (sl FL) BL x))).map (List.length ∘ (fun k => TL (fE FL) (fo (fE FL) (sl FL) BL) D (ch (fE FL) (fo (fE FL) (sl FL) BL x) k)))) = ((List.range (nA (fE FL) (fo (fE FL) (sl FL) BL x))).map (fun k => (TL (fE FL) (fo (fE FL) (sl FL) BL) (D + 1) (ch (fE FL) (fo (fE FL) (sl FL) BL x) k)).length)) := by
                      refine List.map_congr_left (fun k hk => ?_)
                      rw [hstab k (List.mem_range.mp hk)]
                      rfl
                    rw [this]
                    omega
                  omega
                have hI2 : EqI FL F R0 a0 b0 BL (pq (fE FL) (fo (fE FL) (sl FL) BL x) (fo (fE FL) (sl FL) BL y) (nA (fE FL) (fo (fE FL) (sl FL) BL x)) ws) := by
                  refine ⟨iB, iS, ⟨D + 1, hD⟩, iF, fun q hq => ?_, CB_pq hW hg iC hx fx (hD x hx) (nA_4 (hMW m0 ⟨fun _ _ _ => rfl, fun _ _ _ _ => rfl, rfl⟩) gx.1) _ (Nat.le_refl _), fun N hN hBN => iT N (fun q hq => ?_) hBN, fun X hX => ⟨(iX X hX).1, fun q hq => ?_⟩, iR⟩
                  · rcases pq_mem.mp hq with w | ⟨j, hj, w⟩
                    · exact iW' q w
                    · subst w
                      exact ⟨ch_lt hW gx.1 hj, ch_lt hW gy.1 (by rw [hna]; exact hj), (iF _ fx).2.2 j hj, (iF _ fy).2.2 j (by rw [hna]; exact hj)⟩
                  · rcases List.mem_cons.mp hq with e | e
                    · subst e
                      have q1 : TE (fE FL) (sl FL) (fo (fE FL) (sl FL) (N ++ BL)) x (fo (fE FL) (sl FL) BL x) := TE_of (fo_app hx hBN)
                      have q2 : TE (fE FL) (sl FL) (fo (fE FL) (sl FL) (N ++ BL)) y (fo (fE FL) (sl FL) BL y) := TE_of (fo_app hy hBN)
                      have n1 : fo (fE FL) (sl FL) (N ++ BL) (fo (fE FL) (sl FL) BL x) = fo (fE FL) (sl FL) BL x := fo_nv vx _
                      have n2 : fo (fE FL) (sl FL) (N ++ BL) (fo (fE FL) (sl FL) BL y) = fo (fE FL) (sl FL) BL y := fo_nv vy _
                      have q3 : TE (fE FL) (sl FL) (fo (fE FL) (sl FL) (N ++ BL)) (fo (fE FL) (sl FL) BL x) (fo (fE FL) (sl FL) BL y) := by
                        refine TE_nm (by rw [n1]; exact vx) (by rw [n2]; exact vy) (by rw [n1, n2]; exact he) (fun k hk => ?_)
                        rw [n1] at hk ⊢
                        rw [n2]
                        exact hN _ (pq_mem.mpr (Or.inr ⟨k, hk, rfl⟩))
                      exact TE_eqv.2.2 _ _ _ q1 (TE_eqv.2.2 _ _ _ q3 (TE_eqv.2.1 _ _ q2))
                    · exact hN q (pq_mem.mpr (Or.inl e))
                  · rcases pq_mem.mp hq with w | ⟨j, hj, w⟩
                    · exact (iX X hX).2 q (List.mem_cons_of_mem _ w)
                    · subst w
                      exact (hX.2.1 _ _ gx.1 gy.1 (hXf X hX) vx vy).2 j hj
                obtain ⟨n, hn⟩ := ihw (D + 1) BL _ hu hsum hD hI2
                refine ⟨n + 1, enter n (fun m2 p1 f1 p2 f2 e2 hB2 hP2 hL1 hL2 s0 hs0 => ?_)⟩
                have h1 : s0 = 0 := by
                  rcases hs0 with ⟨w, -⟩ | ⟨-, w⟩
                  · exact w
                  · exact absurd w vx
                subst h1
                have l1 := Lo_en (hMW m2 e2) hL1
                have l2 := Lo_en (hMW m2 e2) hL2
                have a2 : 0 ≤ p1 ∧ p1 < 1000 := ⟨l1.1, l1.2.1⟩
                have c2 : 0 ≤ p2 ∧ p2 < 1000 := ⟨l2.1, l2.2.1⟩
                have e10 : ¬ m2.2.1 10 p2 = -1 := by rw [l2.2.2.2.2.2.1]; exact vy
                have ec : m2.2.2.2 2 p1 = m2.2.2.2 2 p2 := by rw [l1.2.2.2.2.2.2.1 vx, l2.2.2.2.2.2.2.1 vy, he]
                have ea : m2.2.1 10 p1 = m2.2.1 10 p2 := by rw [l1.2.2.2.2.2.1, l2.2.2.2.2.2.1, he]
                have f286 : M_equalize_286 (fun x5 m' => M_equalize_32 n x5 m' K) (4 * (ws.length : Int)) p1 f1 p2 f2 0 m2 K := by
                  refine ⟨fun z => absurd rfl z, fun _ => ⟨a2, c2, fun z => absurd ec z, fun _ => ⟨a2, c2, fun _ => ?_, fun z => absurd ea z⟩⟩⟩
                  refine eq_args (FL := FL) (fun m' e' => hMW m' (efr_trans e2 e')) h61 hL1 hL2 he (by omega) hP2 (fun m' s' hP' => ?_)
                  exact hn m' (efr_trans e2 (efr_s s')) (BdOk_sfr hB2 s') hP'
                exact ⟨c2, fun _ => ⟨fun _ => ⟨fun _ => ⟨fun _ => ⟨fun z => absurd rfl z, fun _ => ⟨fun _ => ⟨fun _ => f286, fun z => absurd rfl z⟩, fun z => absurd rfl z⟩⟩, fun z => absurd rfl z⟩, fun z => absurd rfl z⟩, fun z => absurd rfl z⟩, fun z => absurd z e10⟩
            · -- two names that differ
              have hno : ∀ X, UnX (fE FL) R0 a0 b0 X → Acy (fE FL) X → False := fun X hX _ => he (hX.2.1 _ _ gx.1 gy.1 (hXf X hX) vx vy).1
              refine ⟨1, enter 0 (fun m2 p1 f1 p2 f2 e2 hB2 hP2 hL1 hL2 s0 hs0 => ?_)⟩
              have h1 : s0 = 0 := by
                rcases hs0 with ⟨w, -⟩ | ⟨-, w⟩
                · exact w
                · exact absurd w vx
              subst h1
              have l1 := Lo_en (hMW m2 e2) hL1
              have l2 := Lo_en (hMW m2 e2) hL2
              have a2 : 0 ≤ p1 ∧ p1 < 1000 := ⟨l1.1, l1.2.1⟩
              have c2 : 0 ≤ p2 ∧ p2 < 1000 := ⟨l2.1, l2.2.1⟩
              have e10 : ¬ m2.2.1 10 p2 = -1 := by rw [l2.2.2.2.2.2.1]; exact vy
              have f286 : M_equalize_286 (fun x5 m' => M_equalize_32 0 x5 m' K) (4 * (ws.length : Int)) p1 f1 p2 f2 0 m2 K := by
                refine ⟨fun z => absurd rfl z, fun _ => ⟨a2, c2, fun _ => hK0 hno m2 e2, fun ec => ⟨a2, c2, fun ea => ?_, fun _ => hK0 hno m2 e2⟩⟩⟩
                rw [l1.2.2.2.2.2.2.1 vx, l2.2.2.2.2.2.2.1 vy] at ec
                rw [l1.2.2.2.2.2.1, l2.2.2.2.2.2.1] at ea
                exact absurd (Prod.ext ea ec) he
              exact ⟨c2, fun _ => ⟨fun _ => ⟨fun _ => ⟨fun _ => ⟨fun z => absurd rfl z, fun _ => ⟨fun _ => ⟨fun _ => f286, fun z => absurd rfl z⟩, fun z => absurd rfl z⟩⟩, fun z => absurd rfl z⟩, fun z => absurd rfl z⟩, fun z => absurd rfl z⟩, fun z => absurd z e10⟩
end EQL
/-- both sides' knowledge fits -/
def Inv (FL : List Frm) (rp : Nat → Nat) (BL : List (Nat × Nat)) : Prop := BOk (fE FL) (sl FL) BL ∧ (∀ q ∈ BL, q.1 < 8 * FL.length) ∧ (∀ x, x < (fE FL).length → rp (fo (fE FL) (sl FL) BL x) = rp x) ∧ (∀ x y, x < (fE FL).length → y < (fE FL).length → rp x = rp y → isV (fE FL) (fo (fE FL) (sl FL) BL x) → isV (fE FL) (fo (fE FL) (sl FL) BL y) ∧ sl FL (fo (fE FL) (sl FL) BL x) = sl FL (fo (fE FL) (sl FL) BL y)) ∧ (∃ D, ∀ x, x < (fE FL).length → Dp (fE FL) (fo (fE FL) (sl FL) BL) D x) ∧ ∀ x y, x < (fE FL).length → y < (fE FL).length → isV (fE FL) x → isV (fE FL) y → sl FL x = sl FL y → rp x = rp y
theorem Inv_TE {FL : List Frm} {rp : Nat → Nat} {BL : List (Nat × Nat)} (hW : WE (fE FL)) (hC : Clo (fE FL) (Rf rp)) (h : Inv FL rp BL) : ∀ (n x y : Nat), x < (fE FL).length → y < (fE FL).length → rp x = rp y → Te (fE FL) (sl FL) (fo (fE FL) (sl FL) BL) n x y
  | 0, _, _, _, _, _ => trivial
  | n + 1, x, y, hx, hy, e => by
    obtain ⟨h1, h2, h3, h4, h5, h6⟩ := h
    have gx := (fo_fin (s := sl FL) hx h1).1
    have gy := (fo_fin (s := sl FL) hy h1).1
    by_cases vx : isV (fE FL) (fo (fE FL) (sl FL) BL x)
    · have := h4 x y hx hy e vx
      exact Or.inl ⟨vx, this.1, this.2⟩
    · have vy : ¬ isV (fE FL) (fo (fE FL) (sl FL) BL y) := fun z => vx (h4 y x hy hx e.symm z).1
      have hc := hC _ _ gx gy (by show rp _ = rp _; rw [h3 x hx, h3 y hy, e]) vx vy
      refine Or.inr ⟨vx, vy, hc.1, fun k hk => ?_⟩
      have e2 : nA (fE FL) (fo (fE FL) (sl FL) BL y) = nA (fE FL) (fo (fE FL) (sl FL) BL x) := by unfold nA; rw [hc.1]
      exact Inv_TE hW hC ⟨h1, h2, h3, h4, h5, h6⟩ n _ _ (ch_lt hW gx hk) (ch_lt hW gy (by rw [e2]; exact hk)) (hc.2 k hk)
theorem UnX_symm {E : List Sy} {R0 X : Nat → Nat → Prop} {a b : Nat} (h : UnX E R0 a b X) : UnX E R0 b a X := ⟨h.1, h.2.1, h.2.2.1, h.1.2.1 _ _ h.2.2.2⟩
/-- the reference's equalize beside the class's -/
theorem sp_equal {FL : List Frm} {F : List Nat} {rp : Nat → Nat} {BL : List (Nat × Nat)} {a b : Nat} {m : Ob} {p1 f1 p2 f2 : Int} {K : Int → Ob → Prop} (hM : MW FL m) (hB : BdOk FL m BL) (hC : Clo (fE FL) (Rf rp)) (hI : Inv FL rp BL) (hF : FCl (fE FL) (fo (fE FL) (sl FL) BL) F) (hFl : F.length ≤ 200) (fa : fo (fE FL) (sl FL) BL a ∈ F) (fb : fo (fE FL) (sl FL) BL b ∈ F) (h1 : Lo FL p1 f1 a) (h2 : Lo FL p2 f2 b)
    (hK1 : ∀ (BL' : List (Nat × Nat)) (m' : Ob), efr m m' → BdOk FL m' BL' → UnX (fE FL) (Rf rp) a b (TE (fE FL) (sl FL) (fo (fE FL) (sl FL) BL')) → Acy (fE FL) (TE (fE FL) (sl FL) (fo (fE FL) (sl FL) BL')) → (∀ rp', Lst (fE FL) (Rf rp) a b rp' → Inv FL rp' BL') → K 1 m')
    (hK0 : (∀ X, UnX (fE FL) (Rf rp) a b X → Acy (fE FL) X → False) → ∀ m', efr m m' → K 0 m') : wp_M_equalize p1 f1 p2 f2 m K := by
  have hW := fE_WE hM
  have hla := (Lo_en hM h1).2.2.2.2.1
  have hlb := (Lo_en hM h2).2.2.2.2.1
  have hI0 := hI
  obtain ⟨i1, i2, i3, i4, ⟨D, hD⟩, i6⟩ := hI
  have hE0 : EqI FL F (Rf rp) a b BL [(a, b)] := by
    refine ⟨i1, i2, ⟨D, hD⟩, hF, fun q hq => ?_, ⟨⟨[], List.nodup_nil, fun c hc => absurd hc (List.not_mem_nil), Nat.le_refl _⟩, trivial⟩, fun N hN _ => hN (a, b) List.mem_cons_self, fun X hX => ⟨fun x hx => ?_, fun q hq => ?_⟩, fun x y hx hy h n => Inv_TE hW hC hI0 n x y hx hy h⟩
    · rw [List.mem_singleton.mp hq]; exact ⟨hla, hlb, fa, fb⟩
    · exact hX.1.2.1 _ _ (hX.2.2.1 _ _ (fo_fin hx i1).1 hx (i3 x hx))
    · rw [List.mem_singleton.mp hq]; exact hX.2.2.2
  have hfin : ∀ (BL' : List (Nat × Nat)) (m' : Ob), efr m m' → BdOk FL m' BL' → EqI FL F (Rf rp) a b BL' [] → K 1 m' := fun BL' m' e' hB' hE => by
    obtain ⟨j1, j2, ⟨D', hD'⟩, j4, j5, j6, j7, j8, j9⟩ := hE
    have hg := fo_g j1
    have hnv : ∀ x, ¬ isV (fE FL) x → fo (fE FL) (sl FL) BL' x = x := fun x vx => fo_nv vx BL'
    have hU : UnX (fE FL) (Rf rp) a b (TE (fE FL) (sl FL) (fo (fE FL) (sl FL) BL')) := ⟨TE_eqv, TE_clo hnv, j9, j7 [] (fun q hq => absurd hq (List.not_mem_nil)) j1⟩
    refine hK1 BL' m' e' hB' hU (TE_acy hW hg hnv hD') (fun rp' hL => ⟨j1, j2, fun x hx => ((j8 _ hL.1).1 x hx).symm, fun x y hx hy e vx => ?_, ⟨D', hD'⟩, fun x y hx hy vx vy es => ?_⟩)
    · rcases hL.2.2 _ hU x y hx hy e 1 with ⟨w1, w2, w3⟩ | ⟨w1, -⟩
      · exact ⟨w2, w3⟩
      · exact absurd vx w1
    · exact hL.1.2.2.1 x y hx hy (i6 x y hx hy vx vy es)
  obtain ⟨n, hn⟩ := eq_main (m0 := m) (K := K) hW (fun m' e => MW_efr hM e) hFl hM.2 (fun x y hx hy vx vy es => i6 x y hx hy vx vy es) hfin hK0 (8 * FL.length + 1) _ D BL [(a, b)] (by omega) (Nat.lt_succ_self _) hD hE0
  refine ⟨by decide, by decide, by decide, by decide, n, ?_⟩
  refine hn _ ⟨fun _ _ _ => rfl, fun j _ _ z => (((if_neg z).trans (if_neg z)).trans (if_neg z)).trans (if_neg z), rfl⟩ hB ⟨?_, ?_, trivial⟩
  · exact h1
  · exact h2
