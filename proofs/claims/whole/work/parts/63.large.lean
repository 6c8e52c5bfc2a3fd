/-! the search: branches that are too large -/
def tot (E : List Sy) (g : Nat → Nat) (D : Nat) (xs : List Nat) : Nat := (xs.map (fun x => (TL E g D x).length)).sum
theorem tot_cons (E : List Sy) (g : Nat → Nat) (D x : Nat) (xs : List Nat) : tot E g D (x :: xs) = (TL E g D x).length + tot E g D xs := rfl
theorem tot_app (E : List Sy) (g : Nat → Nat) (D : Nat) (xs ys : List Nat) : tot E g D (xs ++ ys) = tot E g D xs + tot E g D ys := by
  unfold tot
  rw [List.map_append, List.sum_append]
theorem TL_len_eq {FL : List Frm} {rp : Nat → Nat} {BL : List (Nat × Nat)} (hW : WE (fE FL)) (hI : Inv FL rp BL) (hC : Clo (fE FL) (Rf rp)) (hV : VR (fE FL) rp) (hr : ∀ x, x < (fE FL).length → rp x < (fE FL).length ∧ rp (rp x) = rp x) : ∀ (n x y : Nat), x < (fE FL).length → y < (fE FL).length → rp x = rp y → (TL (fE FL) rp n x).length = (TL (fE FL) (fo (fE FL) (sl FL) BL) n y).length ∧ (Dp (fE FL) rp n x → Dp (fE FL) (fo (fE FL) (sl FL) BL) n y)
  | 0, x, y, _, _, _ => ⟨rfl, fun h => h⟩
  | n + 1, x, y, hx, hy, e => by
    have gy := (fo_fin (s := sl FL) hy hI.1).1
    have hrx := hr x hx
    obtain ⟨k1, k2⟩ := Inv_en hI hC hV hr hy
    rw [← e] at k1 k2
    have hna : nA (fE FL) (fo (fE FL) (sl FL) BL y) = nA (fE FL) (rp x) := by
      by_cases v : isV (fE FL) (rp x)
      · rw [isV_nA v, isV_nA (k1.mp v)]
      · unfold nA; rw [k2 v]
    have hch : ∀ k, k < nA (fE FL) (rp x) → rp (ch (fE FL) (rp x) k) = rp (ch (fE FL) (fo (fE FL) (sl FL) BL y) k) := fun k hk => by
      have v : ¬ isV (fE FL) (rp x) := fun z => by rw [isV_nA z] at hk; omega
      have v2 : ¬ isV (fE FL) (fo (fE FL) (sl FL) BL y) := fun z => v (k1.mpr z)
      exact (hC (rp x) _ hrx.1 gy (by show rp (rp x) = rp _; rw [hrx.2, e, hI.2.2.1 y hy]) v v2).2 k hk
    have ih : ∀ k, k < nA (fE FL) (rp x) → _ := fun k hk => TL_len_eq hW hI hC hV hr n _ _ (ch_lt hW hrx.1 hk) (ch_lt hW gy (by rw [hna]; exact hk)) (hch k hk)
    refine ⟨?_, fun hd k hk => ?_⟩
    · show (((List.range (nA (fE FL) (rp x))).map (fun k => TL (fE FL) rp n (ch (fE FL) (rp x) k))).flatten).length + 1 = (((List.range (nA (fE FL) (fo (fE FL) (sl FL) BL y))).map (fun k => TL (fE FL) (fo (fE FL) (sl FL) BL) n (ch (fE FL) (fo (fE FL) (sl FL) BL y) k))).flatten).length + 1
      rw [hna, List.length_flatten, List.length_flatten, List.map_map, List.map_map]
      congr 2
      refine List.map_congr_left (fun k hk => ?_)
      exact (ih k (List.mem_range.mp hk)).1
    · rw [hna] at hk
      exact (ih k hk).2 (hd k hk)
/-- the class's look -/
theorem sp_isLarge {NL : List Nat} {E : List Sy} {te go se : Ob} {rp dp : Nat → Nat} {chl : List Nat} {D : Nat} {GL : List (Nat × Nat)} {AL : List Nat} {K : Int → Ob → Prop} (hW : WE E) (hO : OkE NL E) (hT : TeS NL E te rp dp chl) (hD : ∀ x, x < E.length → Dp E rp D x) (hG : GoC go GL) (hu : go.1 0 ≤ 488) (hGl : ∀ q ∈ GL, q.1 < E.length) (hA0 : se.1 0 = (AL.length : Int)) (hA8 : AL.length ≤ 8) (hA : ∀ v : Nat, v < AL.length → se.2.1 0 (v : Int) = (AL.getD v 0 : Int)) (hAl : ∀ x ∈ AL, x < E.length)
    (h1 : 120 < tot E rp D (GL.map Prod.fst) + tot E rp D AL → ∀ te', teG te te' → K 1 te') (h0 : tot E rp D (GL.map Prod.fst) + tot E rp D AL ≤ 120 → ∀ te', teG te te' → K 0 te') : wp_Sea_isLarge te go se K := by
  have hpos : ∀ x, x < E.length → 1 ≤ (TL E rp D x).length := fun x hx => TL_pos (hD x hx)
  -- the asked ones
  have fin : ∀ (left : Int) (te' : Ob), teG te te' → (left < 0 → 120 < tot E rp D (GL.map Prod.fst) + tot E rp D AL) → (0 ≤ left → tot E rp D (GL.map Prod.fst) + tot E rp D AL ≤ 120) → Sea_isLarge_99 left te' go se K := fun left te' g a b => ⟨fun z => h0 (b z) te' g, fun z => h1 (a (by omega)) te' g⟩
  have loop2 : ∀ (n v : Nat) (left : Int) (te' : Ob), v ≤ AL.length → AL.length < n + v → teG te te' → -1 ≤ left → left ≤ 120 → (left < 0 → 120 < tot E rp D (GL.map Prod.fst) + tot E rp D AL) → (0 ≤ left → (tot E rp D (GL.map Prod.fst) : Int) + (tot E rp D (AL.take v) : Int) + left = 120) → Sea_isLarge_64 n left (v : Int) te' go se K := by
    intro n
    induction n with
    | zero => intro v left te' a1 a2; omega
    | succ n ih =>
      intro v left te' hv hn g l1 l2 a b
      refine ⟨fun z => fin left te' g a (fun w => ?_), fun z => ⟨fun w => fin left te' g a (fun w2 => by omega), fun w => ?_⟩⟩
      · have : v = AL.length := by omega
        subst this
        rw [List.take_length] at b
        have := b w
        omega
      · have hvl : v < AL.length := by omega
        have hx := hAl _ (getD_mem hvl)
        rw [hA v hvl]
        obtain ⟨ln, hln⟩ : ∃ ln : Nat, left = (ln : Int) := ⟨left.toNat, by omega⟩
        subst hln
        have hsz := hpos _ hx
        have et : AL.take (v + 1) = AL.take v ++ [AL.getD v 0] := by
          rw [List.take_add_one, List.getD_eq_getElem?_getD, List.getElem?_eq_getElem hvl]; rfl
        have hsub : tot E rp D (AL.take (v + 1)) ≤ tot E rp D AL := by
          have e := congrArg (tot E rp D) (List.take_append_drop (v + 1) AL)
          rw [tot_app] at e
          omega
        have e2 : tot E rp D (AL.take (v + 1)) = tot E rp D (AL.take v) + (TL E rp D (AL.getD v 0)).length := by
          rw [et, tot_app, tot_cons]; rfl
        refine ⟨⟨by omega, by omega⟩, ?_⟩
        refine sp_count hW hO (TeS_G hT g) (by omega) hx (hD _ hx) (fun te2 g2 => ⟨⟨by omega, by omega⟩, ⟨by omega, by omega⟩, ?_⟩)
        have hb := b (by omega)
        have := ih (v + 1) ((ln : Int) - ((min (TL E rp D (AL.getD v 0)).length (ln + 1) : Nat) : Int)) te2 (by omega) (by omega) (teG_trans g g2) (by omega) (by omega) (fun w3 => by omega) (fun w3 => by omega)
        exact this
  have loop1 : ∀ (n : Nat) (l d : List (Nat × Nat)) (left p x3 : Int) (te' : Ob), GL = d ++ l → l.length < n → GoL (go.2.1 0) (go.2.1 1) (go.2.1 2) (go.1 0) p l → teG te te' → -1 ≤ left → left ≤ 120 → 0 ≤ x3 → (0 ≤ left → x3 + left ≤ 120) → x3 ≤ 121 → (left < 0 → 120 < tot E rp D (GL.map Prod.fst) + tot E rp D AL) → (0 ≤ left → (tot E rp D (d.map Prod.fst) : Int) + left = 120) → Sea_isLarge_13 n left p x3 te' go se K := by
    intro n
    induction n with
    | zero => intro l d left p x3 te' _ h; omega
    | succ n ih =>
      intro l d left p x3 te' hd hn hgo g l1 l2 x0 hx3 hx4 a b
      have toend : (0 ≤ left → l = []) → Sea_isLarge_62 left te' go se K := fun hl => by
        refine ⟨AL.length + 1, loop2 (AL.length + 1) 0 left te' (Nat.zero_le _) (by omega) g l1 l2 a (fun w => ?_)⟩
        have hb := b w
        have := hl w
        subst this
        rw [List.append_nil] at hd
        rw [hd]
        show (tot E rp D (d.map Prod.fst) : Int) + ((0 : Nat) : Int) + left = 120
        omega
      refine ⟨fun z => toend (fun w => by omega), fun z => ⟨fun z2 => toend (fun w => by omega), fun z2 => ⟨fun z3 => toend (fun _ => (GoL_neg hgo).mp z3), fun z3 => ?_⟩⟩⟩
      cases l with
      | nil => exact absurd hgo z3
      | cons q l =>
        have hq : q.1 < E.length := hGl q (by rw [hd]; exact List.mem_append_right _ List.mem_cons_self)
        refine sp_termOf hgo hu ?_
        obtain ⟨ln, hln⟩ : ∃ ln : Nat, left = (ln : Int) := ⟨left.toNat, by omega⟩
        subst hln
        have hsz := hpos _ hq
        have hb := b (by omega)
        have h3 := hx3 (by omega)
        refine sp_count hW hO (TeS_G hT g) (by omega) hq (hD _ hq) (fun te2 g2 => ⟨⟨by omega, by omega⟩, ?_⟩)
        refine sp_after hgo hu (fun p' hp' => ⟨⟨by omega, by omega⟩, ?_⟩)
        have etot : tot E rp D (GL.map Prod.fst) = tot E rp D (d.map Prod.fst) + ((TL E rp D q.1).length + tot E rp D (l.map Prod.fst)) := by
          rw [hd, List.map_append, tot_app, List.map_cons, tot_cons]
        have e2 : tot E rp D ((d ++ [q]).map Prod.fst) = tot E rp D (d.map Prod.fst) + (TL E rp D q.1).length := by
          rw [List.map_append, tot_app]; rfl
        rw [List.length_cons] at hn
        exact ih l (d ++ [q]) _ p' (x3 + 1) te2 (by rw [hd, List.append_assoc]; rfl) (by omega) hp' (teG_trans g g2) (by omega) (by omega) (by omega) (fun w => by omega) (by omega) (fun w => by omega) (fun w => by omega)
  show ∃ n13, Sea_isLarge_13 n13 120 (go.1 1) 0 te go se K
  exact ⟨GL.length + 1, loop1 (GL.length + 1) GL [] 120 (go.1 1) 0 te rfl (by omega) hG.1 ⟨teF_refl te, rfl, rfl, rfl⟩ (by decide) (by decide) (by decide) (fun _ => by decide) (by decide) (fun w => by omega) (fun _ => by show ((0 : Nat) : Int) + 120 = 120; decide)⟩
/-- the reference's look -/
theorem sp_large {FL : List Frm} {BL : List (Nat × Nat)} {m : Ob} {D : Nat} {GL : List (Nat × Nat)} {AL : List Nat} {K : Int → Ob → Prop} (hM : MW FL m) (hB : BdOk FL m BL) (hD : ∀ x, x < (fE FL).length → Dp (fE FL) (fo (fE FL) (sl FL) BL) D x) (hG : GoM FL m GL) (hl : GL.length ≤ 300) (hA0 : m.1 12 = (AL.length : Int)) (hA8 : AL.length ≤ 8) (hA : ∀ v : Nat, v < AL.length → Lo FL (m.2.1 14 (v : Int)) 0 (AL.getD v 0))
    (h1 : 120 < tot (fE FL) (fo (fE FL) (sl FL) BL) D (GL.map Prod.fst) + tot (fE FL) (fo (fE FL) (sl FL) BL) D AL → ∀ m', sfr m m' → K 1 m') (h0 : tot (fE FL) (fo (fE FL) (sl FL) BL) D (GL.map Prod.fst) + tot (fE FL) (fo (fE FL) (sl FL) BL) D AL ≤ 120 → ∀ m', sfr m m' → K 0 m') : wp_M_large m K := by
  obtain ⟨g1, g2⟩ := hG
  have fin : ∀ (n : Int) (m' : Ob), sfr m m' → (120 < n → 120 < tot (fE FL) (fo (fE FL) (sl FL) BL) D (GL.map Prod.fst) + tot (fE FL) (fo (fE FL) (sl FL) BL) D AL) → (n ≤ 120 → tot (fE FL) (fo (fE FL) (sl FL) BL) D (GL.map Prod.fst) + tot (fE FL) (fo (fE FL) (sl FL) BL) D AL ≤ 120) → M_large_99 n m' K := fun n m' s a b => ⟨fun z => h0 (b z) m' s, fun z => h1 (a (by omega)) m' s⟩
  have loop2 : ∀ (fuel v : Nat) (n : Nat) (m' : Ob), v ≤ AL.length → AL.length < fuel + v → sfr m m' → n ≤ 241 → (120 < n → 120 < tot (fE FL) (fo (fE FL) (sl FL) BL) D (GL.map Prod.fst) + tot (fE FL) (fo (fE FL) (sl FL) BL) D AL) → (n ≤ 120 → n = tot (fE FL) (fo (fE FL) (sl FL) BL) D (GL.map Prod.fst) + tot (fE FL) (fo (fE FL) (sl FL) BL) D (AL.take v)) → M_large_65 fuel (n : Int) (v : Int) m' K := by
    intro fuel
    induction fuel with
    | zero => intro v n m' a1 a2; omega
    | succ fuel ih =>
      intro v n m' hv hf s hn a b
      have e12 : m'.1 12 = (AL.length : Int) := (s.1 12 (by decide) (by decide)).trans hA0
      refine ⟨fun z => fin n m' s (fun w => a (by omega)) (fun w => ?_), fun z => ⟨fun z2 => fin n m' s (fun w => a (by omega)) (fun w => by omega), fun z2 => ?_⟩⟩
      · have : v = AL.length := by omega
        subst this
        rw [List.take_length] at b
        have := b (by omega)
        omega
      · have hvl : v < AL.length := by omega
        have hLv := hA v hvl
        have hx := (Lo_en hM hLv).2.2.2.2.1
        have e14 : m'.2.1 14 = m.2.1 14 := s.2.1 14 (by decide)
        rw [e14]
        refine ⟨⟨by omega, by omega⟩, ?_⟩
        refine sp_symbols (MW_sfr hM s) (BdOk_sfr hB s) hLv (hD _ hx) (fun m2 s2 => ⟨⟨by omega, by omega⟩, ⟨by omega, by omega⟩, ?_⟩)
        have et : AL.take (v + 1) = AL.take v ++ [AL.getD v 0] := by
          rw [List.take_add_one, List.getD_eq_getElem?_getD, List.getElem?_eq_getElem hvl]; rfl
        have hsub : tot (fE FL) (fo (fE FL) (sl FL) BL) D (AL.take (v + 1)) ≤ tot (fE FL) (fo (fE FL) (sl FL) BL) D AL := by
          have e := congrArg (tot (fE FL) (fo (fE FL) (sl FL) BL) D) (List.take_append_drop (v + 1) AL)
          rw [tot_app] at e
          omega
        have e2 : tot (fE FL) (fo (fE FL) (sl FL) BL) D (AL.take (v + 1)) = tot (fE FL) (fo (fE FL) (sl FL) BL) D (AL.take v) + (TL (fE FL) (fo (fE FL) (sl FL) BL) D (AL.getD v 0)).length := by
          rw [et, tot_app, tot_cons]; rfl
        have hb := b (by omega)
        have := ih (v + 1) (n + min (TL (fE FL) (fo (fE FL) (sl FL) BL) D (AL.getD v 0)).length 121) m2 (by omega) (by omega) (sfr_trans s s2) (by omega) (fun w => by omega) (fun w => by omega)
        exact this
  have loop1 : ∀ (fuel : Nat) (d l : List (Nat × Nat)) (n : Nat) (m' : Ob), GL = d ++ l → d.length < fuel → sfr m m' → n ≤ 241 → (120 < n → 120 < tot (fE FL) (fo (fE FL) (sl FL) BL) D (GL.map Prod.fst) + tot (fE FL) (fo (fE FL) (sl FL) BL) D AL) → (n ≤ 120 → n = tot (fE FL) (fo (fE FL) (sl FL) BL) D (l.map Prod.fst)) → M_large_4 fuel (n : Int) (l.length : Int) m' K := by
    intro fuel
    induction fuel with
    | zero => intro d l n m' _ h; omega
    | succ fuel ih =>
      intro d l n m' hd hf s hn a b
      have e18 : m'.1 18 = (GL.length : Int) := (s.1 18 (by decide) (by decide)).trans g2
      have hdl : GL.length = d.length + l.length := by rw [hd, List.length_append]
      have toend : (n ≤ 120 → d = []) → M_large_63 (n : Int) m' K := fun hh => by
        refine ⟨AL.length + 1, loop2 (AL.length + 1) 0 n m' (Nat.zero_le _) (by omega) s hn a (fun w => ?_)⟩
        have := hh w
        subst this
        rw [List.nil_append] at hd
        rw [hd]
        have := b w
        show n = _ + 0
        omega
      refine ⟨fun z => toend (fun _ => ?_), fun z => ⟨fun z2 => toend (fun w => by omega), fun z2 => ?_⟩⟩
      · cases d with
        | nil => rfl
        | cons q d => rw [List.length_cons] at hdl; omega
      · rcases List.eq_nil_or_concat d with w | ⟨d', q, w⟩
        · subst w
          rw [List.length_nil] at hdl
          omega
        · rw [List.concat_eq_append] at w
          subst w
          have hmg : ∀ (d : List (Nat × Nat)), MGo FL (m.2.1 19) (m.2.1 20) (m.2.1 21) (d ++ q :: l) → MGo FL (m.2.1 19) (m.2.1 20) (m.2.1 21) (q :: l) := by
            intro d
            induction d with
            | nil => intro h; exact h
            | cons r d ihd => intro h; exact ihd h.2.2
          have hd2 : GL = d' ++ q :: l := by rw [hd, List.append_assoc]; rfl
          have hgq := hmg d' (by rw [← hd2]; exact g1)
          have e19 : m'.2.1 19 = m.2.1 19 := s.2.1 19 (by decide)
          have e20 : m'.2.1 20 = m.2.1 20 := s.2.1 20 (by decide)
          have lq := Lo_en (MW_sfr hM s) hgq.1
          have hlen : (d' ++ [q]).length = d'.length + 1 := by rw [List.length_append, List.length_singleton]
          rw [hlen] at hdl hf
          have e2 : tot (fE FL) (fo (fE FL) (sl FL) BL) D ((q :: l).map Prod.fst) = (TL (fE FL) (fo (fE FL) (sl FL) BL) D q.1).length + tot (fE FL) (fo (fE FL) (sl FL) BL) D (l.map Prod.fst) := by rw [List.map_cons, tot_cons]
          have etot : tot (fE FL) (fo (fE FL) (sl FL) BL) D (GL.map Prod.fst) = tot (fE FL) (fo (fE FL) (sl FL) BL) D (d'.map Prod.fst) + tot (fE FL) (fo (fE FL) (sl FL) BL) D ((q :: l).map Prod.fst) := by rw [hd2, List.map_append, tot_app]
          have hb := b (by omega)
          rw [e19, e20]
          have nx : ∀ (r : Nat) (m2 : Ob), sfr m m2 → r = min (TL (fE FL) (fo (fE FL) (sl FL) BL) D q.1).length 121 → M_large_55 (fun x1 x2 m' => M_large_4 fuel x1 x2 m' K) (l.length : Int) (r : Int) (n : Int) m2 K := fun r m2 s2 hr => by
            refine ⟨⟨by omega, by omega⟩, ⟨by omega, by omega⟩, ?_⟩
            have := ih d' (q :: l) (n + r) m2 hd2 (by omega) s2 (by omega) (fun w => by omega) (fun w => by omega)
            exact this
          refine ⟨⟨by omega, by omega⟩, ⟨lq.1, lq.2.1⟩, fun w => ⟨⟨by omega, by omega⟩, ⟨by omega, by omega⟩, ?_⟩, fun w => ?_⟩
          · exact sp_symbols (MW_sfr hM s) (BdOk_sfr hB s) hgq.1 (hD _ lq.2.2.2.2.1) (fun m2 s2 => nx _ m2 (sfr_trans s s2) rfl)
          · have hcut := (Lo_cut (MW_sfr hM s) hgq.1).mp w
            have hnv : ¬ isV (fE FL) q.1 := fun z => by unfold isV at z; rw [hcut] at z; exact absurd z (by decide)
            have h1 : (TL (fE FL) (fo (fE FL) (sl FL) BL) D q.1).length = 1 := by
              have hdd := hD _ lq.2.2.2.2.1
              cases D with
              | zero => exact absurd hdd id
              | succ D =>
                have h0 : nA (fE FL) (fo (fE FL) (sl FL) BL q.1) = 0 := by rw [fo_nv hnv]; unfold nA; rw [hcut]; rfl
                show (((List.range (nA (fE FL) (fo (fE FL) (sl FL) BL q.1))).map (fun k => TL (fE FL) (fo (fE FL) (sl FL) BL) D (ch (fE FL) (fo (fE FL) (sl FL) BL q.1) k))).flatten).length + 1 = 1
                rw [h0]; rfl
            exact nx 1 m' s (by rw [h1]; rfl)
  exact ⟨GL.length + 1, loop1 (GL.length + 1) GL [] 0 m (List.append_nil _).symm (by omega) (sfr_refl m) (by decide) (fun w => by omega) (fun _ => rfl)⟩
