/-! the search: the choices -/
abbrev ChD : Type := List (Nat × Nat) × List Frm × List (Nat × Nat) × (Nat → Nat) × (Nat → Nat) × List Nat × (Int → Int) × List Nat
/-- a choice: path, frames, goals, stands, depths, changes, row of stands, clauses left -/
def ch1 (NL : List Nat) (Cs : List Part) (Q : Part) (E : List Sy) (chlc : List Nat) (sfc : Int → Int) (go ch m : Ob) (i : Int) (d : ChD) : Prop :=
  PathOk Cs Q d.1 d.2.1 d.2.2.1 d.2.2.2.1 ∧ d.1.length < 60
  ∧ (∃ (g k : Nat) (rest : List (Nat × Nat)) (last : Nat), stripG (fE d.2.1) d.2.2.1 = (g, k) :: rest ∧ GoL (go.2.1 0) (go.2.1 1) (go.2.1 2) (ch.2.1 1 i) (ch.2.1 0 i) ((g, k) :: rest) ∧ m.2.1 18 i = (last : Int) ∧ last < 24 ∧ d.2.2.2.2.2.2.2 = (fits (fE d.2.1) d.2.2.2.1 Cs g).filter (fun c => decide (last < c)))
  ∧ (0 ≤ ch.2.1 1 i ∧ ch.2.1 1 i ≤ go.1 0 ∧ ch.2.1 1 i ≤ 8 * ((d.1.length : Int) + 1))
  ∧ ch.2.1 2 i = ((fE d.2.1).length : Int) ∧ ch.2.1 3 i = (d.2.2.2.2.2.1.length : Int) ∧ ch.2.1 4 i = (d.1.length : Int) ∧ m.2.1 17 i = (d.1.length : Int)
  ∧ (∃ X, E = fE d.2.1 ++ X) ∧ TrU (fE d.2.1).length d.2.2.2.2.2.2.1 d.2.2.2.2.2.1 sfc chlc ∧ Fo (fE d.2.1) d.2.2.2.2.2.2.1 d.2.2.2.1 d.2.2.2.2.1 (d.2.2.2.2.2.1.length + 1)
  ∧ d.2.2.2.2.2.1.Nodup ∧ (∀ c ∈ d.2.2.2.2.2.1, c < (fE d.2.1).length ∧ d.2.2.2.2.2.2.1 (c : Int) ≠ -1)
  ∧ d.2.2.2.2.2.2.2 ≠ [] ∧ ch.2.1 5 i = (bt2 d.2.2.2.2.2.2.2 : Int) ∧ PA (m.2.1 15) (m.2.1 16) d.1
def ChOk (NL : List Nat) (Cs : List Part) (Q : Part) (E : List Sy) (chlc : List Nat) (sfc : Int → Int) (go ch m : Ob) : List ChD → Prop
  | [] => True
  | d :: l => ch1 NL Cs Q E chlc sfc go ch m (l.length : Int) d ∧ ((∀ d' ∈ l, d'.1.length < d.1.length ∧ (∃ X, fE d.2.1 = fE d'.2.1 ++ X) ∧ TrU (fE d'.2.1).length d'.2.2.2.2.2.2.1 d'.2.2.2.2.2.1 d.2.2.2.2.2.2.1 d.2.2.2.2.2.1) ∧ ∀ j : Int, 0 ≤ j → j < (l.length : Int) → ch.2.1 1 j ≤ ch.2.1 1 (l.length : Int)) ∧ ChOk NL Cs Q E chlc sfc go ch m l
theorem TrU_refl (u : Nat) (sf : Int → Int) (chl : List Nat) : TrU u sf chl sf chl := ⟨[], (List.append_nil _).symm, fun c hc => absurd hc (List.not_mem_nil), fun _ _ _ => rfl⟩
theorem TrU_trans {u v : Nat} {sf sf1 sf2 : Int → Int} {chl chl1 chl2 : List Nat} (huv : u ≤ v) (h : TrU u sf chl sf1 chl1) (g : TrU v sf1 chl1 sf2 chl2) : TrU u sf chl sf2 chl2 := by
  obtain ⟨n1, a1, a2, a3⟩ := h
  obtain ⟨n2, b1, b2, b3⟩ := g
  refine ⟨n1 ++ n2, by rw [b1, a1, List.append_assoc], fun c hc hu => ?_, fun x hx hn => ?_⟩
  · by_cases q : c ∈ n1
    · exact a2 c q hu
    · have := b2 c ((List.mem_append.mp hc).resolve_left q) (by omega)
      rw [a3 c hu (fun d hd e => q (by rw [e]; exact hd))] at this
      exact this
  · rw [b3 x (by omega) (fun c hc => hn c (List.mem_append_right _ hc)), a3 x hx (fun c hc => hn c (List.mem_append_left _ hc))]
theorem ChOk_mono {NL : List Nat} {Cs : List Part} {Q : Part} {E E' : List Sy} {chlc chlc' : List Nat} {sfc sfc' : Int → Int} {go go' ch ch' m m' : Ob} (hE : ∃ X, E' = E ++ X) (hT : TrU E.length sfc chlc sfc' chlc') (hgo : go.1 0 ≤ go'.1 0) (hga : ∀ x, 0 ≤ x → x < go.1 0 → go'.2.1 0 x = go.2.1 0 x ∧ go'.2.1 1 x = go.2.1 1 x ∧ go'.2.1 2 x = go.2.1 2 x) : ∀ {l : List ChD}, (∀ i, 0 ≤ i → i < (l.length : Int) → (∀ j, j < 6 → ch'.2.1 j i = ch.2.1 j i) ∧ m'.2.1 17 i = m.2.1 17 i ∧ m'.2.1 18 i = m.2.1 18 i) → (∀ d ∈ l, ∀ y, 0 ≤ y → y < (d.1.length : Int) → m'.2.1 15 y = m.2.1 15 y ∧ m'.2.1 16 y = m.2.1 16 y) → ChOk NL Cs Q E chlc sfc go ch m l → ChOk NL Cs Q E' chlc' sfc' go' ch' m' l
  | [], _, _, _ => trivial
  | d :: l, hi, hp, h => by
    obtain ⟨⟨c1, c2, ⟨g, k, rest, last, g1, g2, g3, g3', g4⟩, ⟨c4, c5, c6⟩, c7, c8, c9, c10, ⟨X, c11⟩, c12, c13, c14, c15, c16, c17, c18⟩, h2, h3⟩ := h
    rw [List.length_cons] at hi
    obtain ⟨e1, e2, e3⟩ := hi (l.length : Int) (by omega) (by omega)
    refine ⟨⟨c1, c2, ⟨g, k, rest, last, g1, ?_, by rw [e3]; exact g3, g3', g4⟩, ⟨by rw [e1 1 (by decide)]; exact c4, by rw [e1 1 (by decide)]; omega, by rw [e1 1 (by decide)]; exact c6⟩, by rw [e1 2 (by decide)]; exact c7, by rw [e1 3 (by decide)]; exact c8, by rw [e1 4 (by decide)]; exact c9, by rw [e2]; exact c10, ?_, ?_, c13, c14, c15, c16, by rw [e1 5 (by decide)]; exact c17, ?_⟩, ⟨h2.1, fun j j0 j1 => by rw [(hi j j0 (by omega)).1 1 (by decide), e1 1 (by decide)]; exact h2.2 j j0 j1⟩, ChOk_mono hE hT hgo hga (fun i i0 i1 => hi i i0 (by omega)) (fun d' hd' => hp d' (List.mem_cons_of_mem _ hd')) h3⟩
    · rw [e1 0 (by decide), e1 1 (by decide)]
      exact GoL_eq g2 (Int.le_refl _) (fun x x0 x1 => hga x x0 (by omega))
    · obtain ⟨Y, hY⟩ := hE
      exact ⟨X ++ Y, by rw [hY, c11, List.append_assoc]⟩
    · exact TrU_trans (by rw [c11, List.length_append]; omega) c12 hT
    · exact PA_eq c18 (fun y y0 y1 => hp d List.mem_cons_self y y0 y1)
theorem ChOk_len {NL : List Nat} {Cs : List Part} {Q : Part} {E : List Sy} {chlc : List Nat} {sfc : Int → Int} {go ch m : Ob} : ∀ {l : List ChD} {n : Nat}, ChOk NL Cs Q E chlc sfc go ch m l → (∀ d ∈ l, d.1.length < n) → l.length ≤ n
  | [], n, _, _ => Nat.zero_le _
  | d :: l, n, h, hn => by
    have := ChOk_len (n := d.1.length) h.2.2 (fun d' hd' => (h.2.1.1 d' hd').1)
    have := hn d List.mem_cons_self
    rw [List.length_cons]
    omega
theorem ChOk_drop {NL : List Nat} {Cs : List Part} {Q : Part} {E : List Sy} {chlc : List Nat} {sfc : Int → Int} {go ch m : Ob} : ∀ {l : List ChD} (k : Nat), ChOk NL Cs Q E chlc sfc go ch m l → ChOk NL Cs Q E chlc sfc go ch m (l.drop k)
  | l, 0, h => h
  | [], k + 1, h => h
  | d :: l, k + 1, h => ChOk_drop k h.2.2
theorem ChOk_mem {NL : List Nat} {Cs : List Part} {Q : Part} {E : List Sy} {chlc : List Nat} {sfc : Int → Int} {go ch m : Ob} : ∀ {l : List ChD}, ChOk NL Cs Q E chlc sfc go ch m l → ∀ d' ∈ l, (∃ X, E = fE d'.2.1 ++ X) ∧ TrU (fE d'.2.1).length d'.2.2.2.2.2.2.1 d'.2.2.2.2.2.1 sfc chlc
  | [], _, d', hd => absurd hd (List.not_mem_nil)
  | d :: l, h, d', hd => by
    rcases List.mem_cons.mp hd with e | e
    · subst e
      obtain ⟨⟨-, -, -, -, -, -, -, -, c11, c12, -⟩, -, -⟩ := h
      exact ⟨c11, c12⟩
    · exact ChOk_mem h.2.2 d' e
theorem ChOk_held {NL : List Nat} {Cs : List Part} {Q : Part} {E : List Sy} {chlc : List Nat} {sfc : Int → Int} {go ch m : Ob} : ∀ {l : List ChD}, ChOk NL Cs Q E chlc sfc go ch m l → ∀ j : Int, 0 ≤ j → j < (l.length : Int) → ch.2.1 1 j ≤ go.1 0
  | [], _, j, j0, j1 => by rw [List.length_nil] at j1; omega
  | d :: l, h, j, j0, j1 => by
    rw [List.length_cons] at j1
    by_cases e : j = (l.length : Int)
    · subst e
      exact h.1.2.2.2.1.2.1
    · exact ChOk_held h.2.2 j j0 (by omega)
/-- the older choices, after one has gone back -/
theorem ChOk_back {NL : List Nat} {Cs : List Part} {Q : Part} {E E' : List Sy} {chlc chlc' : List Nat} {sfc sfc' : Int → Int} {go go' ch ch' m m' : Ob} (hga : go'.2.1 = go.2.1) (h15 : m'.2.1 15 = m.2.1 15) (h16 : m'.2.1 16 = m.2.1 16) : ∀ {l : List ChD}, (∀ d' ∈ l, (∃ X, E' = fE d'.2.1 ++ X) ∧ TrU (fE d'.2.1).length d'.2.2.2.2.2.2.1 d'.2.2.2.2.2.1 sfc' chlc') → (∀ i, 0 ≤ i → i < (l.length : Int) → ((∀ j, j < 6 → ch'.2.1 j i = ch.2.1 j i) ∧ ch.2.1 1 i ≤ go'.1 0) ∧ m'.2.1 17 i = m.2.1 17 i ∧ m'.2.1 18 i = m.2.1 18 i) → ChOk NL Cs Q E chlc sfc go ch m l → ChOk NL Cs Q E' chlc' sfc' go' ch' m' l
  | [], _, _, _ => trivial
  | d :: l, hd, hi, h => by
    obtain ⟨⟨c1, c2, ⟨g, k, rest, last, g1, g2, g3, g3', g4⟩, ⟨c4, c5, c6⟩, c7, c8, c9, c10, -, -, c13, c14, c15, c16, c17, c18⟩, h2, h3⟩ := h
    rw [List.length_cons] at hi
    obtain ⟨⟨e1, e1'⟩, e2, e3⟩ := hi (l.length : Int) (by omega) (by omega)
    refine ⟨⟨c1, c2, ⟨g, k, rest, last, g1, ?_, by rw [e3]; exact g3, g3', g4⟩, ⟨by rw [e1 1 (by decide)]; exact c4, by rw [e1 1 (by decide)]; exact e1', by rw [e1 1 (by decide)]; exact c6⟩, by rw [e1 2 (by decide)]; exact c7, by rw [e1 3 (by decide)]; exact c8, by rw [e1 4 (by decide)]; exact c9, by rw [e2]; exact c10, (hd d List.mem_cons_self).1, (hd d List.mem_cons_self).2, c13, c14, c15, c16, by rw [e1 5 (by decide)]; exact c17, by rw [h15, h16]; exact c18⟩, ⟨h2.1, fun j j0 j1 => by rw [(hi j j0 (by omega)).1.1 1 (by decide), e1 1 (by decide)]; exact h2.2 j j0 j1⟩, ChOk_back hga h15 h16 (fun d' hd' => hd d' (List.mem_cons_of_mem _ hd')) (fun i i0 i1 => hi i i0 (by omega)) h3⟩
    rw [e1 0 (by decide), e1 1 (by decide), hga]
    exact g2
/-- the class goes back to a choice's terms -/
theorem sp_goBackT {NL : List Nat} {E Ek : List Sy} {te : Ob} {rp dp rpk dpk : Nat → Nat} {chl chlk : List Nat} {sfk : Int → Int} {K : Ob → Prop} (hT : TeS NL E te rp dp chl) (hE : ∃ X, E = Ek ++ X) (hWk : WE Ek) (hTr : TrU Ek.length sfk chlk (te.2.1 2) chl) (hFo : Fo Ek sfk rpk dpk (chlk.length + 1)) (hnd : chlk.Nodup) (hc : ∀ c ∈ chlk, c < Ek.length ∧ sfk (c : Int) ≠ -1) (hK : ∀ te', TeS NL Ek te' rpk dpk chlk → te'.1 3 = te.1 3 → te'.2.1 3 = te.2.1 3 → (∀ x : Nat, x < Ek.length → te'.2.1 2 (x : Int) = sfk (x : Int)) → K te') : wp_Ter_goBack (Ek.length : Int) (chlk.length : Int) te K := by
  obtain ⟨hC, hF, hTc⟩ := hT
  obtain ⟨X, hX⟩ := hE
  obtain ⟨new, n1, n2, n3⟩ := hTr
  have loop : ∀ (n : Nat) (t : List Nat) (te' : Ob), t.length < n → (∃ t2, new = t ++ t2 ∧ ∀ x : Nat, x < Ek.length → (x ∈ t2 → te'.2.1 2 (x : Int) = -1) ∧ (x ∉ t2 → te'.2.1 2 (x : Int) = te.2.1 2 (x : Int))) → te'.1 1 = ((chlk ++ t).length : Int) → te'.1 3 = te.1 3 → te'.2.1 0 = te.2.1 0 → te'.2.1 1 = te.2.1 1 → te'.2.1 3 = te.2.1 3 → te'.2.1 4 = te.2.1 4 → Ter_goBack_0 n (Ek.length : Int) (chlk.length : Int) te' K := by
    intro n
    induction n with
    | zero => intro t te' h; omega
    | succ n ih =>
      intro t te' hn ht e1 e3 e0 e1' e3' e4'
      rw [List.length_append] at e1
      obtain ⟨t2, t3, t4⟩ := ht
      refine ⟨fun z => ?_, fun z => ⟨fun z2 => by omega, fun _ => ?_⟩⟩
      · have : t = [] := by
          cases t with
          | nil => rfl
          | cons a t => rw [List.length_cons] at e1; omega
        subst this
        rw [List.nil_append] at t3
        have hsf : ∀ x : Nat, x < Ek.length → te'.2.1 2 (x : Int) = sfk (x : Int) := fun x hx => by
          by_cases q : x ∈ new
          · rw [(t4 x hx).1 (by rw [← t3]; exact q), n2 x q hx]
          · rw [(t4 x hx).2 (by rw [← t3]; exact q), n3 x hx (fun c hcn e => q (by rw [e]; exact hcn))]
        refine hK _ ⟨⟨rfl, ?_, fun x hx => ?_⟩, fun x hx => ?_, ?_, ?_, hnd, fun c hcc => ⟨(hc c hcc).1, ?_⟩⟩ e3 e3' hsf
        · have := hC.2.1; rw [hX, List.length_append] at this; omega
        · show te'.2.1 0 _ = _ ∧ te'.2.1 1 _ = _
          rw [e0, e1']
          have := hC.2.2 x (by rw [hX, List.length_append]; omega)
          rw [hX, en_app hx, tsz_app hWk hx] at this
          exact this
        · refine ⟨(hFo x hx).1, ?_⟩
          show (te'.2.1 2 _ = -1 ∧ _) ∨ ∃ y, _ ∧ te'.2.1 2 _ = _ ∧ _
          rw [hsf x hx]
          exact (hFo x hx).2
        · show te'.1 1 = _; rw [e1]; simp
        · intro i hi
          show te'.2.1 4 _ = _
          rw [e4', hTc.2.1 i (by rw [n1, List.length_append]; omega), n1, List.getD_eq_getElem?_getD, List.getElem?_append_left hi, ← List.getD_eq_getElem?_getD]
        · show te'.2.1 2 _ ≠ -1
          rw [hsf c (hc c hcc).1]
          exact (hc c hcc).2
      · rcases List.eq_nil_or_concat t with w | ⟨t', a, w⟩
        · subst w
          rw [List.length_nil] at e1
          omega
        · rw [List.concat_eq_append] at w
          subst w
          rw [List.length_append, List.length_singleton] at e1 hn
          have hidx : te'.1 1 - 1 = ((chlk.length + t'.length : Nat) : Int) := by omega
          have hcl : chl.length = chlk.length + new.length := by rw [n1, List.length_append]
          have hnl : new.length = t'.length + 1 + t2.length := by rw [t3, List.length_append, List.length_append, List.length_singleton]
          have e4 : te'.2.1 4 (te'.1 1 - 1) = (a : Int) := by
            rw [hidx, e4', hTc.2.1 _ (by omega), n1, t3, List.getD_eq_getElem?_getD, List.getElem?_append_right (by omega), show chlk.length + t'.length - chlk.length = t'.length by omega, List.append_assoc, List.getElem?_append_right (Nat.le_refl _), Nat.sub_self]
            rfl
          have ha : a < E.length := (hTc.2.2.2 a (by rw [n1, t3]; exact List.mem_append_right _ (List.mem_append_left _ (List.mem_append_right _ (List.mem_singleton.mpr rfl))))).1
          have hE2 := hC.2.1
          have hcb : chl.length ≤ 2440 := by
            have := nd_len E.length chl hTc.2.2.1 (fun c hcc => (hTc.2.2.2 c hcc).1)
            omega
          rw [e4]
          refine ⟨⟨by omega, by omega⟩, ⟨by omega, by omega⟩, ⟨by omega, by omega⟩, ?_⟩
          refine ih t' _ (by omega) ⟨a :: t2, by rw [t3, List.append_assoc]; rfl, fun x hx => ⟨fun q => ?_, fun q => ?_⟩⟩ ?_ e3 e0 e1' e3' e4'
          · show (if (x : Int) = (a : Int) then (-1 : Int) else te'.2.1 2 (x : Int)) = -1
            by_cases e : x = a
            · rw [if_pos (by omega)]
            · rw [if_neg (by omega)]
              exact (t4 x hx).1 ((List.mem_cons.mp q).resolve_left e)
          · show (if (x : Int) = (a : Int) then (-1 : Int) else te'.2.1 2 (x : Int)) = _
            have hxa : x ≠ a := fun e => q (by rw [e]; exact List.mem_cons_self)
            rw [if_neg (by omega)]
            exact (t4 x hx).2 (fun w => q (List.mem_cons_of_mem _ w))
          · show te'.1 1 - 1 = _
            rw [List.length_append]; omega
  refine ⟨new.length + 1, loop (new.length + 1) new te (by omega) ⟨[], (List.append_nil _).symm, fun x _ => ⟨fun q => absurd q (List.not_mem_nil), fun _ => rfl⟩⟩ ?_ rfl rfl rfl rfl rfl⟩
  rw [hTc.1, n1]
