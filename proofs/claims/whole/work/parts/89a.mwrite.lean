/-! answer: the reference's writer -/
def wxf (m m' : Ob) : Prop := (∀ j, j ≠ 19 → j ≠ 20 → j ≠ 21 → j ≠ 22 → m'.1 j = m.1 j) ∧ (∀ j, j ≠ 24 → j ≠ 25 → j ≠ 26 → m'.2.1 j = m.2.1 j) ∧ m'.2.2 = m.2.2
theorem wxf_refl (m : Ob) : wxf m m := ⟨fun _ _ _ _ _ => rfl, fun _ _ _ _ => rfl, rfl⟩
theorem wxf_trans {a b c : Ob} (h : wxf a b) (g : wxf b c) : wxf a c := ⟨fun j z1 z2 z3 z4 => (g.1 j z1 z2 z3 z4).trans (h.1 j z1 z2 z3 z4), fun j z1 z2 z3 => (g.2.1 j z1 z2 z3).trans (h.2.1 j z1 z2 z3), g.2.2.trans h.2.2⟩
theorem wxf_x {m m' : Ob} (h : wxf m m') : xfr m m' := ⟨fun j _ z1 z2 z3 z4 => h.1 j z1 z2 z3 z4, fun j _ z1 z2 z3 => h.2.1 j z1 z2 z3, h.2.2⟩
theorem wxf_19 (m : Ob) (p f : Int) : wxf m (m19 m p f) := ⟨fun j z1 z2 _ _ => (if_neg z2).trans (if_neg z1), fun _ _ _ _ => rfl, rfl⟩
theorem MW_wxf {FL : List Frm} {m m' : Ob} (h : MW FL m) (f : wxf m m') : MW FL m' := ⟨fun q hq => ⟨by
  have := (h.1 q hq).1
  unfold MCl at this ⊢
  rw [f.2.1 10 (by decide) (by decide) (by decide), f.2.1 11 (by decide) (by decide) (by decide), f.2.1 12 (by decide) (by decide) (by decide), f.2.1 13 (by decide) (by decide) (by decide), f.2.2]
  exact this, (h.1 q hq).2⟩, h.2⟩
theorem BdOk_wxf {FL : List Frm} {m m' : Ob} {BL : List (Nat × Nat)} (h : BdOk FL m BL) (f : wxf m m') : BdOk FL m' BL := by
  unfold BdOk
  rw [f.2.1 22 (by decide) (by decide) (by decide), f.2.1 23 (by decide) (by decide) (by decide)]
  exact h
theorem Lo_ex {FL : List Frm} {x : Nat} (hx : x < (fE FL).length) : ∃ p f, Lo FL p f x := by
  have pos : ∀ (C A : List Frm) (t : Nat), FL = A ++ C → (fE A).length ≤ t → t < (fE FL).length → ∃ p f, Lo FL p f t := by
    intro C
    induction C with
    | nil =>
      intro A t hA h1 h2
      rw [List.append_nil] at hA
      rw [hA] at h2
      omega
    | cons q C ih =>
      intro A t hA h1 h2
      obtain ⟨c, P⟩ := q
      by_cases w : t < (fE A).length + (pL P).length
      · exact ⟨_, _, A, c, P, C, t - (fE A).length, hA, rfl, by omega, rfl, by omega⟩
      · refine ih (A ++ [(c, P)]) t (by rw [hA, List.append_assoc]; rfl) ?_ h2
        rw [fE_snoc, List.length_append]
        show (fE A).length + (pL P).length ≤ t
        omega
  exact pos FL [] x rfl (Nat.zero_le _) hx
/-- the entries that wait: letters, and places that stand for the class's cells -/
def RSt (FL : List Frm) (rp : Nat → Nat) (a : Int → Int) : List It → Prop
  | [] => True
  | i :: st => ((i.1 = 2 ∧ a (3 * (st.length : Int)) = 1 ∧ a (3 * (st.length : Int) + 1) = (i.2 : Int)) ∨ (i.1 < 2 ∧ a (3 * (st.length : Int)) = 2 * (i.1 : Int) ∧ ∃ y, Lo FL (a (3 * (st.length : Int) + 1)) (a (3 * (st.length : Int) + 2)) y ∧ rp y = rp i.2)) ∧ RSt FL rp a st
theorem RSt_eq {FL : List Frm} {rp : Nat → Nat} {a b : Int → Int} : ∀ {st : List It}, RSt FL rp a st → (∀ y, y < 3 * (st.length : Int) → b y = a y) → RSt FL rp b st
  | [], _, _ => trivial
  | i :: st, h, e => by
    rw [List.length_cons] at e
    refine ⟨?_, RSt_eq h.2 (fun y hy => e y (by omega))⟩
    rw [e (3 * (st.length : Int)) (by omega), e (3 * (st.length : Int) + 1) (by omega), e (3 * (st.length : Int) + 2) (by omega)]
    exact h.1
/-- the variables' numbers -/
def NSt (FL : List Frm) (rp : Nat → Nat) (BL : List (Nat × Nat)) (m : Ob) (N : List Nat) : Prop := m.1 22 = (N.length : Int) ∧ ∀ x, x < (fE FL).length → isV (fE FL) (rp x) → (rp x ∈ N → m.2.1 26 (sl FL (fo (fE FL) (sl FL) BL x) : Int) = (idx N (rp x) : Int)) ∧ (rp x ∉ N → m.2.1 26 (sl FL (fo (fE FL) (sl FL) BL x) : Int) < 0)
def MWr (FL : List Frm) (rp : Nat → Nat) (BL : List (Nat × Nat)) (m : Ob) (N : List Nat) (out : List Int) (st : List It) : Prop := m.1 21 = (out.length : Int) ∧ (∀ j : Nat, j < out.length → m.2.1 25 (j : Int) = out.getD j 0) ∧ NSt FL rp BL m N ∧ RSt FL rp (m.2.1 24) st
/-- what both sides' cells have to do with each other -/
def WCx (NL : List Nat) (FL : List Frm) (rp : Nat → Nat) (BL : List (Nat × Nat)) : Prop := Inv FL rp BL ∧ VR (fE FL) rp ∧ Clo (fE FL) (Rf rp) ∧ (∀ x, x < (fE FL).length → rp x < (fE FL).length ∧ rp (rp x) = rp x) ∧ OkE NL (fE FL) ∧ FL.length ≤ 61
section MWT
variable {NL : List Nat} {FL : List Frm} {rp : Nat → Nat} {BL : List (Nat × Nat)} {m : Ob} {N : List Nat} {out : List Int} {st : List It}
theorem wc_v (h : WCx NL FL rp BL) {x : Nat} (hx : x < (fE FL).length) : isV (fE FL) (fo (fE FL) (sl FL) BL x) ↔ isV (fE FL) (rp x) := by
  obtain ⟨⟨i1, i2, i3, i4, i5, i6⟩, hV, -, hr, -⟩ := h
  have hf := (fo_fin (s := sl FL) hx i1).1
  constructor
  · intro w
    have h1 := (i4 x (rp x) hx (hr x hx).1 (hr x hx).2.symm w).1
    by_cases q : isV (fE FL) (rp x)
    · exact q
    · rw [fo_nv q] at h1; exact h1
  · intro w
    exact hV x _ hx hf (i3 x hx).symm w
theorem wc_e (h : WCx NL FL rp BL) {x : Nat} (hx : x < (fE FL).length) (hn : ¬ isV (fE FL) (rp x)) : en (fE FL) (fo (fE FL) (sl FL) BL x) = en (fE FL) (rp x) ∧ ∀ k, k < nA (fE FL) (rp x) → rp (ch (fE FL) (fo (fE FL) (sl FL) BL x) k) = rp (ch (fE FL) (rp x) k) := by
  have hv := wc_v h hx
  obtain ⟨⟨i1, i2, i3, i4, i5, i6⟩, hV, hC, hr, -⟩ := h
  have hf := (fo_fin (s := sl FL) hx i1).1
  have key := hC _ _ hf (hr x hx).1 (show rp (fo (fE FL) (sl FL) BL x) = rp (rp x) by rw [i3 x hx, (hr x hx).2]) (fun w => hn (hv.mp w)) hn
  refine ⟨key.1, fun k hk => key.2 k ?_⟩
  unfold nA at hk ⊢
  rw [key.1]; exact hk
theorem NSt_add (h : WCx NL FL rp BL) {x : Nat} (hx : x < (fE FL).length) (hv : isV (fE FL) (rp x)) (hN : NSt FL rp BL m N) (hno : rp x ∉ N) : NSt FL rp BL (sI (sA m 26 (sl FL (fo (fE FL) (sl FL) BL x) : Int) (m.1 22)) 22 (m.1 22 + 1)) (N ++ [rp x]) := by
  have hvx := (wc_v h hx).mpr hv
  have wcv := fun y (hy : y < (fE FL).length) => wc_v h hy
  obtain ⟨⟨i1, i2, i3, i4, i5, i6⟩, hV, hC, hr, -⟩ := h
  obtain ⟨n1, n2⟩ := hN
  have hf := fun y (hy : y < (fE FL).length) => (fo_fin (s := sl FL) hy i1).1
  refine ⟨?_, fun y hy vy => ?_⟩
  · show m.1 22 + 1 = _
    rw [List.length_append, List.length_singleton]; omega
  · have e26 : (sI (sA m 26 (sl FL (fo (fE FL) (sl FL) BL x) : Int) (m.1 22)) 22 (m.1 22 + 1)).2.1 26 (sl FL (fo (fE FL) (sl FL) BL y) : Int) = if (sl FL (fo (fE FL) (sl FL) BL y) : Int) = (sl FL (fo (fE FL) (sl FL) BL x) : Int) then m.1 22 else m.2.1 26 (sl FL (fo (fE FL) (sl FL) BL y) : Int) := rfl
    rw [e26]
    by_cases q : rp y = rp x
    · have es := (i4 y x hy hx q ((wcv y hy).mpr vy)).2
      rw [if_pos (by rw [es]), q]
      refine ⟨fun _ => ?_, fun w => absurd (List.mem_append_right _ (List.mem_singleton.mpr rfl)) w⟩
      rw [idx_new hno]; exact n1
    · have es : ¬ (sl FL (fo (fE FL) (sl FL) BL y) : Int) = (sl FL (fo (fE FL) (sl FL) BL x) : Int) := fun w => by
        have := i6 _ _ (hf y hy) (hf x hx) ((wcv y hy).mpr vy) hvx (by omega)
        rw [i3 y hy, i3 x hx] at this
        exact q this
      rw [if_neg es]
      refine ⟨fun w => ?_, fun w => (n2 y hy vy).2 (fun v => w (List.mem_append_left _ v))⟩
      have hm : rp y ∈ N := by
        rcases List.mem_append.mp w with v | v
        · exact v
        · exact absurd (List.mem_singleton.mp v) q
      rw [idx_app _ hm]
      exact (n2 y hy vy).1 hm
theorem sp_mput {k : Int} {K : Ob → Prop} (h : MWr FL rp BL m N out st) (hl : out.length < 3000) (hK : ∀ m', MWr FL rp BL m' N (out ++ [k]) st → wxf m m' → K m') : wp_M_put k m K := by
  obtain ⟨h0, h1, h2, h3⟩ := h
  refine ⟨⟨by omega, by omega⟩, ⟨by omega, by omega⟩, hK _ ⟨?_, fun j hj => ?_, h2, h3⟩ ⟨fun j _ _ z3 _ => if_neg z3, fun j _ z2 _ => if_neg z2, rfl⟩⟩
  · show m.1 21 + 1 = _
    rw [List.length_append, List.length_singleton]; omega
  · show updI (m.2.1 25) (m.1 21) k (j : Int) = _
    unfold updI
    rw [List.length_append, List.length_singleton] at hj
    by_cases q : j = out.length
    · rw [if_pos (by omega), q, List.getD_eq_getElem?_getD, List.getElem?_append_right (Nat.le_refl _), Nat.sub_self]
      rfl
    · rw [if_neg (by omega), h1 j (by omega), List.getD_eq_getElem?_getD, List.getD_eq_getElem?_getD, List.getElem?_append_left (by omega)]
theorem sp_mlater {i : It} {c v f : Int} {K : Int → Ob → Prop} (h : MWr FL rp BL m N out st) (hl : st.length ≤ 2000) (hi : (i.1 = 2 ∧ c = 1 ∧ v = (i.2 : Int)) ∨ (i.1 < 2 ∧ c = 2 * (i.1 : Int) ∧ ∃ y, Lo FL v f y ∧ rp y = rp i.2)) (hK : ∀ m', MWr FL rp BL m' N out (i :: st) → wxf m m' → K (3 * ((i :: st).length : Int)) m') : wp_M_later (3 * (st.length : Int)) c v f m K := by
  obtain ⟨h0, h1, h2, h3⟩ := h
  refine ⟨⟨by omega, by omega⟩, ⟨by omega, by omega⟩, ⟨by omega, by omega⟩, ⟨by omega, by omega⟩, ⟨by omega, by omega⟩, ⟨by omega, by omega⟩, ?_⟩
  rw [show 3 * (st.length : Int) + 3 = 3 * ((i :: st).length : Int) by rw [List.length_cons]; omega]
  have e24 : ∀ y, (sA (sA (sA m 24 (3 * (st.length : Int)) c) 24 (3 * (st.length : Int) + 1) v) 24 (3 * (st.length : Int) + 2) f).2.1 24 y = if y = 3 * (st.length : Int) + 2 then f else if y = 3 * (st.length : Int) + 1 then v else if y = 3 * (st.length : Int) then c else m.2.1 24 y := fun y => rfl
  refine hK _ ⟨h0, h1, h2, ?_, RSt_eq h3 (fun y hy => ?_)⟩ ⟨fun _ _ _ _ _ => rfl, fun j z1 _ _ => ((if_neg z1).trans (if_neg z1)).trans (if_neg z1), rfl⟩
  · rw [e24, e24, e24, if_neg (by omega), if_neg (by omega), if_pos rfl, if_neg (by omega), if_pos rfl, if_pos rfl]
    exact hi
  · rw [e24, if_neg (by omega), if_neg (by omega), if_neg (by omega)]
theorem sar_bt0 (y : Nat) {s : Nat} (hs : s ≤ 56) : sar y s &&& 255 = (y / 2 ^ s) &&& 255 := by
  apply Nat.eq_of_testBit_eq
  intro i
  rw [Nat.testBit_and, Nat.testBit_and]
  by_cases hi : i < 8
  · have e : (sar y s).testBit i = (y / 2 ^ s).testBit i := by
      unfold sar
      rw [BitVec.testBit_toNat, BitVec.getLsbD_sshiftRight, Nat.testBit_div_two_pow]
      have h1 : ¬ 64 ≤ i := by omega
      have h2 : s + i < 64 := by omega
      simp only [h1, h2, decide_false, Bool.not_false, Bool.true_and, if_true]
      rw [BitVec.getLsbD_ofNat]
      simp [h2, Nat.add_comm]
    rw [e]
  · have e : (255 : Nat).testBit i = false := by
      apply Nat.testBit_lt_two_pow
      exact Nat.lt_of_lt_of_le (by decide : 255 < 2 ^ 8) (Nat.pow_le_pow_right (by decide) (by omega))
    rw [e, Bool.and_false, Bool.and_false]
theorem sp_mword {w : Nat} {K : Ob → Prop} (h : MWr FL rp BL m N out st) (hl : out.length + (wdL w).length ≤ 1200) (hK : ∀ m', MWr FL rp BL m' N (out ++ wdL w) st → wxf m m' → K m') : wp_M_putWord w m K := by
  have loop : ∀ (n k : Nat) (o : List Int) (m' : Ob), k ≤ 8 → 8 < n + k → o ++ wdF w k = out ++ wdL w → MWr FL rp BL m' N o st → wxf m m' → M_putWord_2 n w (k : Int) m' K := by
    intro n
    induction n with
    | zero => intro k o m' h1 h2; omega
    | succ n ih =>
      intro k o m' hk hn ho hc hf
      refine ⟨fun z => ?_, fun z => ?_⟩
      · have : k = 8 := by omega
        subst this
        rw [wdF_8, List.append_nil] at ho
        subst ho
        exact hK m' hc hf
      · have hk8 : k < 8 := by omega
        have e8 : (8 * (k : Int)).toNat = 8 * k := by omega
        have hb : (w / 2 ^ (8 * k)) &&& 255 < 256 := by
          have := Nat.and_le_right (n := w / 2 ^ (8 * k)) (m := 255)
          omega
        have es := wdF_s w k hk8
        rw [e8, sar_bt0 w (by omega)]
        refine ⟨⟨by omega, by omega⟩, ⟨by omega, by omega⟩, by omega, fun w0 => ?_, fun w0 => ?_⟩
        · rw [if_pos w0] at es
          exact ⟨⟨by omega, by omega⟩, ih (k + 1) o m' (by omega) (by omega) (by rw [← es]; exact ho) hc hf⟩
        · rw [if_neg w0] at es
          have hlen : o.length + (wdF w k).length = out.length + (wdL w).length := by rw [← List.length_append, ho, List.length_append]
          rw [es, List.length_cons] at hlen
          refine sp_mput hc (by omega) (fun m2 c2 f2 => ⟨⟨by omega, by omega⟩, ?_⟩)
          exact ih (k + 1) _ m2 (by omega) (by omega) (by rw [List.append_assoc, List.singleton_append, ← es]; exact ho) c2 (wxf_trans hf f2)
  exact ⟨9, loop 9 0 out m (by omega) (by omega) (by rw [wdF_0]) h (wxf_refl m)⟩
theorem sp_mvar {x : Nat} {K : Ob → Prop} (hc : WCx NL FL rp BL) (hx : x < (fE FL).length) (hs : sl FL (fo (fE FL) (sl FL) BL x) < 8 * FL.length) (hv : isV (fE FL) (rp x)) (h : MWr FL rp BL m N out st) (h100 : (nuN N (rp x)).length ≤ 100) (hl : out.length + 3 ≤ 1200) (hK : ∀ m', MWr FL rp BL m' (nuN N (rp x)) (out ++ vtx (idx (nuN N (rp x)) (rp x))) st → wxf m m' → K m') : wp_M_putVariable (sl FL (fo (fE FL) (sl FL) BL x) : Int) m K := by
  have h61 := hc.2.2.2.2.2
  have hmem := nuN_mem N (rp x)
  have hidx := (idx_lt hmem).1
  have at26 : ∀ (o : List Int) (m1 : Ob), MWr FL rp BL m1 (nuN N (rp x)) o st → m1.2.1 26 (sl FL (fo (fE FL) (sl FL) BL x) : Int) = (idx (nuN N (rp x)) (rp x) : Int) := fun o m1 c1 => (c1.2.2.1.2 x hx hv).1 hmem
  have hnew : rp x ∉ N → NSt FL rp BL (sI (sA m 26 (sl FL (fo (fE FL) (sl FL) BL x) : Int) (m.1 22)) 22 (m.1 22 + 1)) (N ++ [rp x]) := NSt_add hc hx hv h.2.2.1
  have hold := h.2.2.1.2 x hx hv
  generalize et : idx (nuN N (rp x)) (rp x) = t at *
  generalize esl : (sl FL (fo (fE FL) (sl FL) BL x) : Int) = s at *
  have hs0 : 0 ≤ s ∧ s < 488 := by omega
  have ht : t < 100 := by omega
  have f92 : ∀ (o : List Int) (m1 : Ob), MWr FL rp BL m1 (nuN N (rp x)) o st → wxf m m1 → o.length < 1200 → o ++ [48 + (t : Int) % 10] = out ++ vtx t → M_putVariable_92 s m1 K := fun o m1 c1 f1 l1 e1 => by
    unfold M_putVariable_92
    rw [at26 o m1 c1]
    refine ⟨hs0, by omega, ⟨by omega, by omega⟩, sp_mput c1 (by omega) (fun m2 c2 f2 => hK m2 ?_ (wxf_trans f1 f2))⟩
    rw [← e1]; exact c2
  have f29 : ∀ m1 : Ob, MWr FL rp BL m1 (nuN N (rp x)) out st → wxf m m1 → M_putVariable_29 s m1 K := fun m1 c1 f1 => by
    refine sp_mput c1 (by omega) (fun m2 c2 f2 => ⟨hs0, ?_⟩)
    rw [at26 _ m2 c2]
    refine ⟨fun _ => ⟨hs0, ?_⟩, fun z => absurd (by omega) z⟩
    rw [at26 _ m2 c2]
    refine ⟨fun z => ?_, fun z => ⟨hs0, by omega, by omega, ⟨by omega, by omega⟩, ?_⟩⟩
    · refine f92 _ m2 c2 (wxf_trans f1 f2) (by rw [List.length_append, List.length_singleton]; omega) ?_
      unfold vtx
      rw [if_pos (by omega), List.append_assoc]; rfl
    · refine sp_mput c2 (by rw [List.length_append, List.length_singleton]; omega) (fun m3 c3 f3 => ?_)
      refine f92 _ m3 c3 (wxf_trans f1 (wxf_trans f2 f3)) (by rw [List.length_append, List.length_append, List.length_singleton, List.length_singleton]; omega) ?_
      unfold vtx
      rw [if_neg (by omega), List.append_assoc, List.append_assoc, show (t : Int) / 10 % 10 = (t : Int) / 10 by omega]; rfl
  refine ⟨hs0, fun z => ?_, fun z => ⟨hs0, ?_, ?_⟩⟩
  · have hm : rp x ∈ N := by
      by_cases q : rp x ∈ N
      · exact q
      · have := hold.2 q; omega
    refine f29 m ?_ (wxf_refl m)
    rw [show nuN N (rp x) = N from if_pos hm]; exact h
  · have h22 := h.2.2.1.1
    have hno : rp x ∉ N := fun q => z (by rw [hold.1 q]; omega)
    rw [show nuN N (rp x) = N ++ [rp x] from if_neg hno, List.length_append] at h100
    exact ⟨by omega, by omega⟩
  · have hno : rp x ∉ N := fun q => z (by rw [hold.1 q]; omega)
    refine f29 _ ?_ ⟨fun j _ _ _ z4 => if_neg z4, fun j _ _ z3 => if_neg z3, rfl⟩
    rw [show nuN N (rp x) = N ++ [rp x] from if_neg hno]
    obtain ⟨h0, h1, h2, h3⟩ := h
    exact ⟨h0, h1, hnew hno, h3⟩
end MWT
