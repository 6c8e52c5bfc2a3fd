/-! the search: the reference's places and the class's cells -/
abbrev Frm : Type := Nat × Part
def fP (FL : List Frm) : List Part := FL.map Prod.snd
def fE (FL : List Frm) : List Sy := psL (fP FL)
theorem fE_app (A C : List Frm) : fE (A ++ C) = fE A ++ fE C := by
  unfold fE fP
  rw [List.map_append, psL_app]
theorem fE_cons (q : Frm) (C : List Frm) : fE (q :: C) = pL q.2 ++ fE C := rfl
theorem fE_split {FL A C : List Frm} {c : Nat} {P : Part} (h : FL = A ++ (c, P) :: C) : fE FL = fE A ++ (pL P ++ fE C) := by rw [h, fE_app, fE_cons]
/-- place p of the reference in frame f is cell x of the class -/
def Lo (FL : List Frm) (p f : Int) (x : Nat) : Prop := ∃ (A : List Frm) (c : Nat) (P : Part) (C : List Frm) (j : Nat), FL = A ++ (c, P) :: C ∧ f = (A.length : Int) ∧ j < (pL P).length ∧ p = 40 * (c : Int) + (j : Int) ∧ x = (fE A).length + j
def MW (FL : List Frm) (m : Ob) : Prop := (∀ q ∈ FL, MCl m (q.1 : Int) q.2 ∧ q.1 ≤ 24 ∧ PSh q.2 ∧ ¬ ovP q.2) ∧ FL.length ≤ 61
/-- a variable's place -/
def slx : List Part → Nat → Nat → Nat
  | [], _, _ => 0
  | P :: Ps, f, x => if x < (pL P).length then 8 * f + cM (pL P) x else slx Ps (f + 1) (x - (pL P).length)
theorem slx_at : ∀ (A : List Part) (P : Part) (C : List Part) (f j : Nat), j < (pL P).length → slx (A ++ P :: C) f ((psL A).length + j) = 8 * (f + A.length) + cM (pL P) j
  | [], P, C, f, j, h => by
    show (if 0 + j < (pL P).length then _ else _) = _
    rw [if_pos (by omega)]
    show 8 * f + cM (pL P) (0 + j) = 8 * (f + 0) + cM (pL P) j
    rw [Nat.zero_add, Nat.add_zero]
  | Q :: A, P, C, f, j, h => by
    rw [psL_cons, List.length_append]
    show (if (pL Q).length + (psL A).length + j < (pL Q).length then _ else slx (A ++ P :: C) (f + 1) ((pL Q).length + (psL A).length + j - (pL Q).length)) = _
    rw [if_neg (by omega), show (pL Q).length + (psL A).length + j - (pL Q).length = (psL A).length + j by omega, slx_at A P C (f + 1) j h, List.length_cons]
    omega
def sl (FL : List Frm) (x : Nat) : Nat := slx (fP FL) 0 x
theorem cM_lt {L : List Sy} {j : Nat} (h : j < L.length) (hv : (L.getD j (0, 0)).1 = -1) : cM L j < (vM L).length := by
  unfold cM
  rw [if_pos hv]
  by_cases q : (L.getD j (0, 0)).2 = 95
  · rw [if_pos q]
    have e : L = L.take j ++ L.getD j (0, 0) :: L.drop (j + 1) := by
      have h1 := (List.take_append_drop j L).symm
      rw [List.drop_eq_getElem_cons h] at h1
      rw [List.getD_eq_getElem?_getD, List.getElem?_eq_getElem h]
      exact h1
    obtain ⟨u, hu⟩ := vM_ext (L.take j ++ [L.getD j (0, 0)]) (L.drop (j + 1))
    have e2 : vM (L.take j ++ [L.getD j (0, 0)]) = vM (L.take j) ++ [(L.getD j (0, 0)).2] := by
      rw [vM_snoc]
      exact if_pos ⟨hv, Or.inl q⟩
    have e3 : vM L = vM (L.take j ++ [L.getD j (0, 0)]) ++ u := by
      rw [← hu, List.append_assoc]
      exact congrArg vM e
    rw [e3, e2, List.length_append, List.length_append, List.length_singleton]
    omega
  · rw [if_neg q]
    exact (idx_lt (mem_vM (gD_mem h) hv q)).1
section LOC
variable {FL : List Frm} {m : Ob}
theorem Lo_en {p f : Int} {x : Nat} (hM : MW FL m) (h : Lo FL p f x) : 0 ≤ p ∧ p < 1000 ∧ 0 ≤ f ∧ f < (FL.length : Int) ∧ x < (fE FL).length ∧ m.2.1 10 p = (en (fE FL) x).1 ∧ (¬ isV (fE FL) x → m.2.2.2 2 p = (en (fE FL) x).2) ∧ (isV (fE FL) x → (sl FL x : Int) = 8 * f + (m.2.2.2 2 p : Int) ∧ m.2.2.2 2 p < 8 ∧ sl FL x < 8 * FL.length) := by
  obtain ⟨A, c, P, C, j, h1, h2, h3, h4, h5⟩ := h
  have hq : (c, P) ∈ FL := by rw [h1]; exact List.mem_append_right _ List.mem_cons_self
  obtain ⟨⟨g1, g2, g3, g4⟩, c24, sh, ov⟩ := hM.1 (c, P) hq
  have b := ov_40 ov
  have hE := fE_split h1
  have hen : en (fE FL) x = (pL P).getD j (0, 0) := by
    rw [hE, h5]
    unfold en
    rw [gD_app_r, gD_app_l h3]
  have hlen : A.length < FL.length := by rw [h1, List.length_append, List.length_cons]; omega
  have c24 : c ≤ 24 := c24
  have b1 : (pL P).length ≤ 40 := b.1
  have ex := g2 j h3
  refine ⟨by omega, by omega, by omega, by omega, ?_, ?_, fun hv => ?_, fun hv => ?_⟩
  · rw [hE, h5, List.length_append, List.length_append]; omega
  · rw [h4, hen]; exact ex.1
  · rw [h4, hen]
    refine ex.2.trans ?_
    unfold cM
    rw [if_neg (by unfold isV at hv; rw [hen] at hv; exact hv)]
  · have hv' : ((pL P).getD j (0, 0)).1 = -1 := by unfold isV at hv; rw [hen] at hv; exact hv
    have hc := cM_lt h3 hv'
    have b2 : (vM (pL P)).length ≤ 8 := b.2.1
    have es : sl FL x = 8 * A.length + cM (pL P) j := by
      unfold sl
      rw [h5, h1]
      unfold fE fP
      rw [List.map_append, List.map_cons]
      have := slx_at (A.map Prod.snd) P (C.map Prod.snd) 0 j h3
      rw [List.length_map, Nat.zero_add] at this
      exact this
    have ec : m.2.2.2 2 p = cM (pL P) j := by rw [h4]; exact ex.2
    rw [es, ec]
    exact ⟨by omega, by omega, by omega⟩
theorem fE_WE (hM : MW FL m) : WE (fE FL) := psL_WE (fun p hp => by
  obtain ⟨q, hq, e⟩ := List.mem_map.mp hp
  subst e
  exact (hM.1 q hq).2.2.1)
/-- the reference's behind -/
theorem sp_behind {p f : Int} {x : Nat} {K : Int → Prop} (hM : MW FL m) (h : Lo FL p f x) (hK : K (p + (tsz (fE FL) x : Int))) : wp_M_behind p m K := by
  obtain ⟨A, c, P, C, j, h1, h2, h3, h4, h5⟩ := h
  have hq : (c, P) ∈ FL := by rw [h1]; exact List.mem_append_right _ List.mem_cons_self
  obtain ⟨⟨g1, g2, g3, g4⟩, c24, sh, ov⟩ := hM.1 (c, P) hq
  have b := ov_40 ov
  have c24 : c ≤ 24 := c24
  have b1 : (pL P).length ≤ 40 := b.1
  have hWP : WE (pL P) := by
    obtain ⟨b, hb⟩ := PSh_tms sh
    exact WE_tms hb
  have hts : tsz (fE FL) x = tsz (pL P) j := by rw [fE_split h1, h5, tsz_app_r, tsz_app hWP h3]
  have loop : ∀ (n i need bb : Nat), (pL P).length < n + i → Fr ((pL P).drop i) bb → need ≤ bb → 40 * (c : Int) + (i : Int) + (sk ((pL P).drop i) need : Int) = p + (tsz (fE FL) x : Int) → i ≤ (pL P).length → need ≤ 200 → M_behind_4 (n + 1) (40 * (c : Int) + (i : Int)) (need : Int) m K := by
    intro n
    induction n with
    | zero => intro i need bb h; omega
    | succ n ih =>
      intro i need bb hn hF hnb e hi hn2
      refine ⟨fun z => ?_, fun z => ?_⟩
      · have : need = 0 := by omega
        subst this
        rw [sk_0] at e
        rw [show 40 * (c : Int) + (i : Int) = p + (tsz (fE FL) x : Int) by omega]
        exact hK
      · have hil : i < (pL P).length := by
          by_cases q : i < (pL P).length
          · exact q
          · rw [List.drop_of_length_le (by omega)] at hF
            have hF : bb = 0 := hF
            omega
        rw [drop_en hil] at hF e
        obtain ⟨b', f1, f2, f3⟩ := hF
        obtain ⟨nd, hnd⟩ : ∃ nd, need = nd + 1 := ⟨need - 1, by omega⟩
        subst hnd
        have ee : sk (en (pL P) i :: (pL P).drop (i + 1)) (nd + 1) = 1 + sk ((pL P).drop (i + 1)) (nd + (en (pL P) i).1.toNat) := rfl
        rw [ee] at e
        have ea := (g2 i hil).1
        have ea' : m.2.1 10 (40 * (c : Int) + (i : Int)) = (en (pL P) i).1 := ea
        have h4' : (en (pL P) i).1 ≤ 4 := b.2.2.2 _ (gD_mem hil)
        have hbb : b' ≤ 200 ∨ True := Or.inr trivial
        have hle : nd + (en (pL P) i).1.toNat ≤ b' := by omega
        have hb40 : ∀ {T : List Sy} {q : Nat}, Fr T q → q ≤ T.length := by
          intro T
          induction T with
          | nil => intro q h; have h : q = 0 := h; omega
          | cons y T ihT =>
            intro q h
            obtain ⟨q', w1, w2, w3⟩ := h
            have := ihT w1
            rw [List.length_cons]; omega
        have hb' := hb40 f1
        rw [List.length_drop] at hb'
        refine ⟨⟨by omega, by omega⟩, fun z2 => ⟨⟨by omega, by omega⟩, ⟨by omega, by omega⟩, ?_⟩, fun z2 => ⟨⟨by omega, by omega⟩, ?_, ⟨by omega, by omega⟩, ?_, ?_⟩⟩
        · rw [ea'] at z2
          have e0 : nd + (en (pL P) i).1.toNat = nd := by omega
          rw [e0] at e hle
          have := ih (i + 1) nd b' (by omega) f1 hle (by omega) (by omega) (by omega)
          rw [show 40 * (c : Int) + (i : Int) + 1 = 40 * (c : Int) + ((i + 1 : Nat) : Int) by omega, show ((nd + 1 : Nat) : Int) + (-1) = (nd : Int) by omega]
          exact this
        · rw [ea']; exact ⟨by omega, by omega⟩
        · rw [ea']; exact ⟨by omega, by omega⟩
        · rw [ea'] at z2 ⊢
          have := ih (i + 1) (nd + (en (pL P) i).1.toNat) b' (by omega) f1 hle (by omega) (by omega) (by omega)
          rw [show 40 * (c : Int) + (i : Int) + 1 = 40 * (c : Int) + ((i + 1 : Nat) : Int) by omega, show ((nd + 1 : Nat) : Int) + (en (pL P) i).1 + (-1) = ((nd + (en (pL P) i).1.toNat : Nat) : Int) by omega]
          exact this
  obtain ⟨bb, hb0⟩ := hWP
  obtain ⟨b2, hb2⟩ := Fr_drop j hb0
  refine ⟨(pL P).length + 2, ?_⟩
  rw [h4]
  have hb3 := hb2
  rw [drop_en h3] at hb3
  obtain ⟨b', f1, f2, f3⟩ := hb3
  exact loop ((pL P).length + 1) j 1 b2 (by omega) hb2 (by omega) (by rw [hts, h4]; rfl) (by omega) (by omega)
/-- the arguments' places -/
theorem Lo_ch {p f : Int} {x k : Nat} (hM : MW FL m) (h : Lo FL p f x) (hk : k < nA (fE FL) x) : Lo FL (p + ((ch (fE FL) x k - x : Nat) : Int)) f (ch (fE FL) x k) := by
  obtain ⟨A, c, P, C, j, h1, h2, h3, h4, h5⟩ := h
  have hq : (c, P) ∈ FL := by rw [h1]; exact List.mem_append_right _ List.mem_cons_self
  obtain ⟨-, c24, sh, ov⟩ := hM.1 (c, P) hq
  have hWP : WE (pL P) := by
    obtain ⟨b, hb⟩ := PSh_tms sh
    exact WE_tms hb
  have hna : nA (fE FL) x = nA (pL P) j := by rw [fE_split h1, h5, nA_app_r, nA_app h3]
  rw [hna] at hk
  have hch : ch (fE FL) x k = (fE A).length + ch (pL P) j k := by rw [fE_split h1, h5, ch_app_r, ch_app hWP h3 (by omega)]
  have hlt := ch_lt hWP h3 hk
  have hgt := ch_gt (E := pL P) j k
  exact ⟨A, c, P, C, ch (pL P) j k, h1, h2, hlt, by rw [hch, h5, h4]; omega, hch⟩
end LOC
/-- the reference's bindings, the last one first -/
def lk : List (Nat × Nat) → Nat → Option Nat
  | [], _ => none
  | q :: BL, v => if v = q.1 then some q.2 else lk BL v
def fo (E : List Sy) (s : Nat → Nat) : List (Nat × Nat) → Nat → Nat
  | [], x => x
  | q :: BL, x => if (en E (fo E s BL x)).1 = -1 ∧ s (fo E s BL x) = q.1 then q.2 else fo E s BL x
def BOk (E : List Sy) (s : Nat → Nat) : List (Nat × Nat) → Prop
  | [] => True
  | q :: BL => lk BL q.1 = none ∧ q.2 < E.length ∧ (isV E q.2 → lk BL (s q.2) = none ∧ s q.2 ≠ q.1) ∧ BOk E s BL
section FOL
variable {E : List Sy} {s : Nat → Nat}
theorem fo_nv {x : Nat} (h : ¬ isV E x) : ∀ BL : List (Nat × Nat), fo E s BL x = x
  | [] => rfl
  | q :: BL => by
    show (if (en E (fo E s BL x)).1 = -1 ∧ s (fo E s BL x) = q.1 then q.2 else fo E s BL x) = x
    rw [fo_nv h BL, if_neg (fun z => h z.1)]
theorem fo_un {x : Nat} : ∀ {BL : List (Nat × Nat)}, lk BL (s x) = none → fo E s BL x = x
  | [], _ => rfl
  | q :: BL, h => by
    have h1 : s x ≠ q.1 := fun z => by
      have : lk (q :: BL) (s x) = some q.2 := if_pos z
      rw [this] at h; cases h
    have h2 : lk BL (s x) = none := by
      have : lk (q :: BL) (s x) = lk BL (s x) := if_neg h1
      rw [this] at h; exact h
    show (if (en E (fo E s BL x)).1 = -1 ∧ s (fo E s BL x) = q.1 then q.2 else fo E s BL x) = x
    rw [fo_un h2, if_neg (fun z => h1 z.2)]
theorem fo_bd {x y : Nat} (hv : isV E x) : ∀ {BL : List (Nat × Nat)}, BOk E s BL → lk BL (s x) = some y → fo E s BL x = fo E s BL y
  | [], _, h => by cases h
  | q :: BL, hB, h => by
    obtain ⟨b1, b2, b3, b4⟩ := hB
    show (if (en E (fo E s BL x)).1 = -1 ∧ s (fo E s BL x) = q.1 then q.2 else fo E s BL x) = (if (en E (fo E s BL y)).1 = -1 ∧ s (fo E s BL y) = q.1 then q.2 else fo E s BL y)
    by_cases e : s x = q.1
    · have : lk (q :: BL) (s x) = some q.2 := if_pos e
      rw [this] at h
      injection h with h
      subst h
      rw [fo_un (x := x) (by rw [e]; exact b1), if_pos ⟨hv, e⟩]
      have e2 : fo E s BL q.2 = q.2 := by
        by_cases w : isV E q.2
        · exact fo_un (b3 w).1
        · exact fo_nv w BL
      rw [e2]
      by_cases w : isV E q.2
      · rw [if_neg (fun z => (b3 w).2 z.2)]
      · rw [if_neg (fun z => w z.1)]
    · have : lk (q :: BL) (s x) = lk BL (s x) := if_neg e
      rw [this] at h
      rw [fo_bd hv b4 h]
theorem fo_fin {x : Nat} (hx : x < E.length) : ∀ {BL : List (Nat × Nat)}, BOk E s BL → fo E s BL x < E.length ∧ (isV E (fo E s BL x) → lk BL (s (fo E s BL x)) = none)
  | [], _ => ⟨hx, fun _ => rfl⟩
  | q :: BL, hB => by
    obtain ⟨b1, b2, b3, b4⟩ := hB
    have ih := fo_fin hx b4
    show (if (en E (fo E s BL x)).1 = -1 ∧ s (fo E s BL x) = q.1 then q.2 else fo E s BL x) < E.length ∧ (isV E (if (en E (fo E s BL x)).1 = -1 ∧ s (fo E s BL x) = q.1 then q.2 else fo E s BL x) → lk (q :: BL) (s (if (en E (fo E s BL x)).1 = -1 ∧ s (fo E s BL x) = q.1 then q.2 else fo E s BL x)) = none)
    by_cases e : (en E (fo E s BL x)).1 = -1 ∧ s (fo E s BL x) = q.1
    · rw [if_pos e]
      refine ⟨b2, fun w => ?_⟩
      show (if s q.2 = q.1 then _ else lk BL (s q.2)) = none
      rw [if_neg (b3 w).2]
      exact (b3 w).1
    · rw [if_neg e]
      refine ⟨ih.1, fun w => ?_⟩
      show (if s (fo E s BL x) = q.1 then _ else lk BL (s (fo E s BL x))) = none
      rw [if_neg (fun z => e ⟨w, z⟩)]
      exact ih.2 w
theorem fo_fo {x : Nat} {BL : List (Nat × Nat)} (hx : x < E.length) (hB : BOk E s BL) : fo E s BL (fo E s BL x) = fo E s BL x := by
  by_cases w : isV E (fo E s BL x)
  · exact fo_un ((fo_fin hx hB).2 w)
  · exact fo_nv w BL
def Sfo (E : List Sy) (s : Nat → Nat) (BL : List (Nat × Nat)) : Nat → Nat → Nat → Prop
  | 0, x, z => x = z
  | n + 1, x, z => isV E x ∧ ∃ y, lk BL (s x) = some y ∧ Sfo E s BL n y z
theorem Sfo_snoc {BL : List (Nat × Nat)} {z y : Nat} (hv : isV E z) (hl : lk BL (s z) = some y) : ∀ {n x : Nat}, Sfo E s BL n x z → Sfo E s BL (n + 1) x y
  | 0, x, h => by
    have h : x = z := h
    subst h
    exact ⟨hv, y, hl, rfl⟩
  | n + 1, x, h => by
    obtain ⟨h1, w, h2, h3⟩ := h
    exact ⟨h1, w, h2, Sfo_snoc hv hl h3⟩
theorem Sfo_up {BL : List (Nat × Nat)} {q : Nat × Nat} (hq : lk BL q.1 = none) : ∀ {n x z : Nat}, Sfo E s BL n x z → Sfo E s (q :: BL) n x z
  | 0, _, _, h => h
  | n + 1, x, z, h => by
    obtain ⟨h1, w, h2, h3⟩ := h
    refine ⟨h1, w, ?_, Sfo_up hq h3⟩
    have : s x ≠ q.1 := fun e => by rw [e, hq] at h2; cases h2
    show (if s x = q.1 then _ else lk BL (s x)) = _
    rw [if_neg this]
    exact h2
theorem fo_steps {x : Nat} : ∀ {BL : List (Nat × Nat)}, BOk E s BL → ∃ n, n ≤ BL.length ∧ Sfo E s BL n x (fo E s BL x)
  | [], _ => ⟨0, Nat.le_refl _, rfl⟩
  | q :: BL, hB => by
    obtain ⟨b1, b2, b3, b4⟩ := hB
    obtain ⟨n, h1, h2⟩ := fo_steps (x := x) b4
    have h3 := Sfo_up b1 h2
    rw [List.length_cons]
    by_cases e : (en E (fo E s BL x)).1 = -1 ∧ s (fo E s BL x) = q.1
    · refine ⟨n + 1, by omega, ?_⟩
      have ef : fo E s (q :: BL) x = q.2 := if_pos e
      rw [ef]
      have hl : lk (q :: BL) (s (fo E s BL x)) = some q.2 := if_pos e.2
      exact Sfo_snoc (s := s) e.1 hl h3
    · refine ⟨n, by omega, ?_⟩
      have ef : fo E s (q :: BL) x = fo E s BL x := if_neg e
      rw [ef]
      exact h3
theorem lk_mem {v : Nat} : ∀ {BL : List (Nat × Nat)}, lk BL v = none ↔ v ∉ BL.map Prod.fst
  | [] => ⟨fun _ => List.not_mem_nil, fun _ => rfl⟩
  | q :: BL => by
    rw [List.map_cons, List.mem_cons]
    show (if v = q.1 then some q.2 else lk BL v) = none ↔ _
    by_cases e : v = q.1
    · rw [if_pos e]
      exact ⟨fun z => (by cases z), fun z => absurd (Or.inl e) z⟩
    · rw [if_neg e, lk_mem]
      exact ⟨fun z w => w.elim e z, fun z w => z (Or.inr w)⟩
theorem BOk_nd : ∀ {BL : List (Nat × Nat)}, BOk E s BL → (BL.map Prod.fst).Nodup
  | [], _ => List.nodup_nil
  | q :: BL, hB => by
    rw [List.map_cons, List.nodup_cons]
    exact ⟨lk_mem.mp hB.1, BOk_nd hB.2.2.2⟩
end FOL
/-- the reference holds the bindings -/
def BdOk (FL : List Frm) (m : Ob) (BL : List (Nat × Nat)) : Prop := BOk (fE FL) (sl FL) BL ∧ (∀ q ∈ BL, q.1 < 8 * FL.length) ∧ ∀ v : Nat, v < 8 * FL.length → (lk BL v = none → m.2.1 22 (v : Int) < 0) ∧ ∀ y, lk BL v = some y → Lo FL (m.2.1 22 (v : Int)) (m.2.1 23 (v : Int)) y
def m19 (m : Ob) (p f : Int) : Ob := sI (sI m 19 p) 20 f
theorem m19_m19 (m : Ob) (p f p2 f2 : Int) : m19 (m19 m p f) p2 f2 = m19 m p2 f2 := by
  unfold m19 sI
  refine Prod.ext (funext (fun j => ?_)) rfl
  show (if j = 20 then f2 else if j = 19 then p2 else if j = 20 then f else if j = 19 then p else m.1 j) = (if j = 20 then f2 else if j = 19 then p2 else m.1 j)
  by_cases a : j = 20
  · simp [a]
  · by_cases b : j = 19
    · simp [b]
    · simp [a, b]
theorem sp_follow {FL : List Frm} {m : Ob} {BL : List (Nat × Nat)} {p f : Int} {x : Nat} {K : Ob → Prop} (hM : MW FL m) (hB : BdOk FL m BL) (h : Lo FL p f x) (hK : ∀ p' f', Lo FL p' f' (fo (fE FL) (sl FL) BL x) → K (m19 m p' f')) : wp_M_follow p f m K := by
  obtain ⟨n, hn, hs⟩ := fo_steps (x := x) hB.1
  have hlen : BL.length ≤ 488 := by
    have h1 := nd_len (8 * FL.length) (BL.map Prod.fst) (BOk_nd hB.1) (fun c hc => by
      obtain ⟨q, hq, e⟩ := List.mem_map.mp hc
      subst e
      exact hB.2.1 q hq)
    rw [List.length_map] at h1
    have := hM.2
    omega
  have loop : ∀ (n : Nat) (x : Nat) (p f x3 : Int), Lo FL p f x → 0 ≤ x3 → x3 + (n : Int) < 500 → Sfo (fE FL) (sl FL) BL n x (fo (fE FL) (sl FL) BL x) → (∀ p' f', Lo FL p' f' (fo (fE FL) (sl FL) BL x) → K (m19 m p' f')) → M_follow_12 (n + 1) x3 (m19 m p f) K := by
    intro n
    induction n with
    | zero =>
      intro x p f x3 hL x0 hx hst hK
      have hst : x = fo (fE FL) (sl FL) BL x := hst
      have hl := Lo_en hM hL
      have h61 := hM.2
      refine ⟨fun z => by omega, fun _ => ⟨⟨hl.1, hl.2.1⟩, fun _ => hK p f (by rw [← hst]; exact hL), fun z => ?_⟩⟩
      have z : m.2.1 10 p = -1 := z
      have hv : isV (fE FL) x := by rw [hl.2.2.2.2.2.1] at z; exact z
      have h8 := hl.2.2.2.2.2.2.2 hv
      have hun : lk BL (sl FL x) = none := by
        have := (fo_fin hl.2.2.2.2.1 hB.1).2
        rw [← hst] at this
        exact this hv
      have hb := (hB.2.2 (sl FL x) h8.2.2).1 hun
      rw [h8.1] at hb
      have q1 := hl.2.2.1
      have q2 := hl.2.2.2.1
      have q3 := h8.2.1
      refine ⟨⟨?_, ?_⟩, ⟨hl.1, hl.2.1⟩, ?_, ⟨?_, ?_⟩, ⟨?_, ?_⟩, fun z2 => ?_, fun _ => hK p f (by rw [← hst]; exact hL)⟩
      · show _ ≤ 8 * f; omega
      · show 8 * f ≤ _; omega
      · show m.2.2.2 2 p < _; omega
      · show _ ≤ 8 * f + (m.2.2.2 2 p : Int); omega
      · show 8 * f + (m.2.2.2 2 p : Int) ≤ _; omega
      · show 0 ≤ 8 * f + (m.2.2.2 2 p : Int); omega
      · show 8 * f + (m.2.2.2 2 p : Int) < 488; omega
      · have z2 : 0 ≤ m.2.1 22 (8 * f + (m.2.2.2 2 p : Int)) := z2
        omega
    | succ n ih =>
      intro x p f x3 hL x0 hx hst hK
      obtain ⟨hv, y, hy, hst2⟩ := hst
      have hl := Lo_en hM hL
      have h61 := hM.2
      have h8 := hl.2.2.2.2.2.2.2 hv
      have e10 : m.2.1 10 p = -1 := by rw [hl.2.2.2.2.2.1]; exact hv
      have hLy := (hB.2.2 (sl FL x) h8.2.2).2 y hy
      rw [h8.1] at hLy
      have h0 := (Lo_en hM hLy).1
      have efo := fo_bd hv hB.1 hy
      have q1 := hl.2.2.1
      have q2 := hl.2.2.2.1
      have q3 := h8.2.1
      rw [efo] at hst2 hK
      refine ⟨fun z => by omega, fun _ => ⟨⟨hl.1, hl.2.1⟩, fun z => absurd e10 z, fun _ => ⟨⟨?_, ?_⟩, ⟨hl.1, hl.2.1⟩, ?_, ⟨?_, ?_⟩, ⟨?_, ?_⟩, fun _ => ⟨⟨?_, ?_⟩, ⟨?_, ?_⟩, ⟨by omega, by omega⟩, ?_⟩, fun z2 => absurd h0 z2⟩⟩⟩
      · show _ ≤ 8 * f; omega
      · show 8 * f ≤ _; omega
      · show m.2.2.2 2 p < _; omega
      · show _ ≤ 8 * f + (m.2.2.2 2 p : Int); omega
      · show 8 * f + (m.2.2.2 2 p : Int) ≤ _; omega
      · show 0 ≤ 8 * f + (m.2.2.2 2 p : Int); omega
      · show 8 * f + (m.2.2.2 2 p : Int) < 488; omega
      · show 0 ≤ 8 * f + (m.2.2.2 2 p : Int); omega
      · show 8 * f + (m.2.2.2 2 p : Int) < 488; omega
      · show 0 ≤ 8 * f + (m.2.2.2 2 p : Int); omega
      · show 8 * f + (m.2.2.2 2 p : Int) < 488; omega
      · have := ih y _ _ (x3 + 1) hLy (by omega) (by omega) hst2 hK
        rw [← m19_m19 m p f] at this
        exact this
  exact ⟨n + 1, loop n x p f 0 h (by omega) (by omega) hs hK⟩
