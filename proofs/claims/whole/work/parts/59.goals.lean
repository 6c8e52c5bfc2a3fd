/-! the search: the goals that are left -/
def bdG : List (List Sy) → Nat → Nat → List (Nat × Nat)
  | [], _, _ => []
  | G :: Gs, x, cut => (x, cut) :: bdG Gs (x + G.length) cut
/-- the goals of a part whose cells begin at b -/
def bd (b : Nat) (P : Part) (cut : Nat) : List (Nat × Nat) := bdG P.2 (b + P.1.length) cut
theorem bdG_len : ∀ (Gs : List (List Sy)) (x cut : Nat), (bdG Gs x cut).length = Gs.length
  | [], _, _ => rfl
  | G :: Gs, x, cut => by
    show (bdG Gs _ cut).length + 1 = Gs.length + 1
    rw [bdG_len Gs]
theorem bd_len (b : Nat) (P : Part) (cut : Nat) : (bd b P cut).length = P.2.length := bdG_len _ _ _
/-- the class's row of goals -/
def GoL (a0 a1 a2 : Int → Int) (u : Int) : Int → List (Nat × Nat) → Prop
  | p, [] => p = -1
  | p, q :: l => 0 ≤ p ∧ p < u ∧ a0 p = (q.1 : Int) ∧ a1 p = (q.2 : Int) ∧ GoL a0 a1 a2 u (a2 p) l
theorem GoL_eq {a0 a1 a2 b0 b1 b2 : Int → Int} {u u' : Int} : ∀ {l : List (Nat × Nat)} {p : Int}, GoL a0 a1 a2 u p l → u ≤ u' → (∀ x, 0 ≤ x → x < u → b0 x = a0 x ∧ b1 x = a1 x ∧ b2 x = a2 x) → GoL b0 b1 b2 u' p l
  | [], p, h, _, _ => h
  | q :: l, p, h, hu, e => by
    obtain ⟨h1, h2, h3, h4, h5⟩ := h
    obtain ⟨e0, e1, e2⟩ := e p h1 h2
    refine ⟨h1, by omega, by rw [e0]; exact h3, by rw [e1]; exact h4, ?_⟩
    rw [e2]
    exact GoL_eq h5 hu e
theorem GoL_neg {a0 a1 a2 : Int → Int} {u p : Int} {l : List (Nat × Nat)} (h : GoL a0 a1 a2 u p l) : p = -1 ↔ l = [] := by
  cases l with
  | nil => exact ⟨fun _ => rfl, fun _ => h⟩
  | cons q l => exact ⟨fun z => by have := h.1; omega, fun z => by cases z⟩
/-- the class's goals -/
def GoC (go : Ob) (GL : List (Nat × Nat)) : Prop := GoL (go.2.1 0) (go.2.1 1) (go.2.1 2) (go.1 0) (go.1 1) GL ∧ 0 ≤ go.1 0
theorem sp_termOf {go : Ob} {q : Nat × Nat} {l : List (Nat × Nat)} {p : Int} {K : Int → Prop} (h : GoL (go.2.1 0) (go.2.1 1) (go.2.1 2) (go.1 0) p (q :: l)) (hu : go.1 0 ≤ 488) (hK : K (q.1 : Int)) : wp_Goa_termOf p go K := by
  obtain ⟨h1, h2, h3, h4, h5⟩ := h
  refine ⟨fun z => by omega, fun _ => ⟨fun z => by omega, fun _ => ⟨⟨by omega, by omega⟩, ?_⟩⟩⟩
  rw [h3]; exact hK
theorem sp_cutOf {go : Ob} {q : Nat × Nat} {l : List (Nat × Nat)} {p : Int} {K : Int → Prop} (h : GoL (go.2.1 0) (go.2.1 1) (go.2.1 2) (go.1 0) p (q :: l)) (hu : go.1 0 ≤ 488) (hK : K (q.2 : Int)) : wp_Goa_cutOf p go K := by
  obtain ⟨h1, h2, h3, h4, h5⟩ := h
  refine ⟨fun z => by omega, fun _ => ⟨fun z => by omega, fun _ => ⟨⟨by omega, by omega⟩, ?_⟩⟩⟩
  rw [h4]; exact hK
theorem sp_after {go : Ob} {q : Nat × Nat} {l : List (Nat × Nat)} {p : Int} {K : Int → Prop} (h : GoL (go.2.1 0) (go.2.1 1) (go.2.1 2) (go.1 0) p (q :: l)) (hu : go.1 0 ≤ 488) (hK : ∀ p', GoL (go.2.1 0) (go.2.1 1) (go.2.1 2) (go.1 0) p' l → K p') : wp_Goa_after p go K := by
  obtain ⟨h1, h2, h3, h4, h5⟩ := h
  exact ⟨fun z => by omega, fun _ => ⟨fun z => by omega, fun _ => ⟨⟨by omega, by omega⟩, hK _ h5⟩⟩⟩
theorem sp_takeFirst {go : Ob} {q : Nat × Nat} {l : List (Nat × Nat)} {K : Ob → Prop} (h : GoC go (q :: l)) (hu : go.1 0 ≤ 488) (hK : ∀ go', GoC go' l → go'.1 0 = go.1 0 → go'.2.1 = go.2.1 → K go') : wp_Goa_takeFirst go K := sp_after h.1 hu (fun p' hp => hK _ ⟨hp, h.2⟩ rfl rfl)
/-- sizes of the goals in the cells -/
def GZn (E : List Sy) : List (List Sy) → Nat → Prop
  | [], x => x = E.length
  | G :: Gs, x => x < E.length ∧ tsz E x = G.length ∧ GZn E Gs (x + G.length)
theorem GZn_of {P : Part} (hP : PSh P) : ∀ (Gs : List (List Sy)) (A : List Sy), pL P = A ++ Gs.flatten → (∀ G ∈ Gs, G = [(-2, 0)] ∨ nmT G) → GZn (pL P) Gs A.length
  | [], A, h, _ => by
    rw [List.flatten_nil, List.append_nil] at h
    show A.length = (pL P).length
    rw [h]
  | G :: Gs, A, h, hG => by
    have hg := hG G List.mem_cons_self
    have h1 : Tms 1 G := by
      rcases hg with e | e
      · rw [e]; exact Tms_one (x := (-2, 0)) Tms_nil
      · exact e.1
    have hne : 0 < G.length := by
      rcases hg with e | ⟨-, -, a, w, T, e, -⟩
      · rw [e]; decide
      · rw [e]; exact Nat.succ_pos _
    rw [List.flatten_cons] at h
    have hl : A.length < (pL P).length := by rw [h, List.length_append, List.length_append]; omega
    have hF : Fr G 1 := by
      have := h1 [] 0 rfl
      rw [List.append_nil] at this
      exact this
    have ht : tsz (pL P) A.length = G.length := by
      have e1 : tsz (pL P) A.length = tsz (G ++ Gs.flatten) 0 := by
        rw [h]
        exact tsz_app_r A (G ++ Gs.flatten) 0
      rw [e1]
      unfold tsz
      rw [List.drop_zero, sk_app 1 _ hF (Nat.le_refl _)]
      -- all of G is one term
      have key : ∀ (T : List Sy) (n b : Nat), Fr T b → n = b → sk T n = T.length := by
        intro T
        induction T with
        | nil => intro n b hb e; rfl
        | cons y T ih =>
          intro n b hb e
          obtain ⟨b', g1, g2, g3⟩ := hb
          cases n with
          | zero => omega
          | succ n =>
            show 1 + sk T (n + y.1.toNat) = T.length + 1
            rw [ih (n + y.1.toNat) b' g1 (by omega)]
            omega
      exact key G 1 1 hF rfl
    refine ⟨hl, ht, ?_⟩
    have := GZn_of hP Gs (A ++ G) (by rw [h, List.append_assoc]) (fun G' hG' => hG G' (List.mem_cons_of_mem _ hG'))
    rw [List.length_append] at this
    exact this
/-- the class puts a part's goals before the others -/
theorem sp_putBefore {NL : List Nat} {E0 : List Sy} {P : Part} {te go : Ob} {GL : List (Nat × Nat)} {cut : Nat} {K : Ob → Prop} (hP : PSh P) (hov : ¬ ovP P) (hC : CW NL (E0 ++ pL P) te) (hG : GoC go GL) (hu : go.1 0 + (P.2.length : Int) ≤ 488)
    (hK : ∀ go', GoC go' (bd E0.length P cut ++ GL) → go'.1 0 = go.1 0 + (P.2.length : Int) → (∀ x, 0 ≤ x → x < go.1 0 → go'.2.1 0 x = go.2.1 0 x ∧ go'.2.1 1 x = go.2.1 1 x ∧ go'.2.1 2 x = go.2.1 2 x) → K go') : wp_Goa_putBefore ((E0.length : Int) + (P.1.length : Int)) (((E0 ++ pL P).length : Nat) : Int) (cut : Int) te go K := by
  have h8 : P.2.length ≤ 8 := (ov_40 hov).2.2.1
  have hz : GZn (pL P) P.2 P.1.length := GZn_of hP P.2 P.1 rfl hP.2
  have hE := hC.2.1
  obtain ⟨hG1, hG2⟩ := hG
  have loop : ∀ (n : Nat) (D Gs : List (List Sy)) (x : Nat) (x6 : Int) (go' : Ob), P.2 = D ++ Gs → GZn (pL P) Gs x → Gs.length < n → go'.1 0 = go.1 0 + (D.length : Int) → (∀ y, 0 ≤ y → y < go.1 0 → go'.2.1 0 y = go.2.1 0 y ∧ go'.2.1 1 y = go.2.1 1 y ∧ go'.2.1 2 y = go.2.1 2 y) → (D = [] → x6 = -1 ∧ go'.1 1 = go.1 1) → (D ≠ [] → x6 = go'.1 0 - 1 ∧ ∀ (b2 : Int → Int) (T : List (Nat × Nat)) (r u' : Int), (∀ y, 0 ≤ y → y < go'.1 0 - 1 → b2 y = go'.2.1 2 y) → b2 (go'.1 0 - 1) = r → go'.1 0 ≤ u' → ∀ (b0 b1 : Int → Int), (∀ y, 0 ≤ y → y < go'.1 0 → b0 y = go'.2.1 0 y ∧ b1 y = go'.2.1 1 y) → GoL b0 b1 b2 u' r T → GoL b0 b1 b2 u' (go'.1 1) (bdG D (E0.length + P.1.length) cut ++ T)) → (D ≠ [] → go'.2.1 2 (go'.1 0 - 1) = go.1 1) → bdG P.2 (E0.length + P.1.length) cut = bdG D (E0.length + P.1.length) cut ++ bdG Gs (E0.length + x) cut → Goa_putBefore_15 n (((E0 ++ pL P).length : Nat) : Int) (cut : Int) (go.1 1) x6 ((E0.length : Int) + (x : Int)) (D.length : Int) te go' K := by
    intro n
    induction n with
    | zero => intro D Gs x x6 go' _ _ h; omega
    | succ n ih =>
      intro D Gs x x6 go' hD hgz hn e0 e1 hd0 hd1 hd2 hbd
      have hDl : P.2.length = D.length + Gs.length := by rw [hD, List.length_append]
      have fin : Gs = [] → K go' := fun hg => by
        subst hg
        rw [List.append_nil] at hD
        refine hK go' ⟨?_, by omega⟩ (by rw [e0, hD]) e1
        by_cases w : D = []
        · have hw : P.2 = [] := by rw [hD, w]
          have : bd E0.length P cut = [] := by unfold bd; rw [hw]; rfl
          rw [this, List.nil_append]
          have := (hd0 w).2
          rw [this]
          refine GoL_eq hG1 (by rw [e0]; omega) (fun y y0 y1 => e1 y y0 y1)
        · have hgol : GoL (go'.2.1 0) (go'.2.1 1) (go'.2.1 2) (go'.1 0) (go.1 1) GL := GoL_eq hG1 (by rw [e0]; omega) (fun y y0 y1 => e1 y y0 y1)
          have := (hd1 w).2 (go'.2.1 2) GL (go.1 1) (go'.1 0) (fun _ _ _ => rfl) (hd2 w) (Int.le_refl _) (go'.2.1 0) (go'.2.1 1) (fun _ _ _ => ⟨rfl, rfl⟩) hgol
          unfold bd
          rw [hD]
          exact this
      have hxl : (E0 ++ pL P).length = E0.length + (pL P).length := List.length_append
      refine ⟨fun z => fin ?_, fun z => ⟨fun z2 => fin ?_, fun z2 => ⟨fun z3 => ?_, fun _ => ?_⟩⟩⟩
      · cases Gs with
        | nil => rfl
        | cons G Gs => rw [List.length_cons] at hDl; omega
      · cases Gs with
        | nil => rfl
        | cons G Gs => have := hgz.1; omega
      · cases Gs with
        | nil =>
          have hgz : x = (pL P).length := hgz
          omega
        | cons G Gs => rw [List.length_cons] at hDl; omega
      · cases Gs with
        | nil =>
          have hgz : x = (pL P).length := hgz
          omega
        | cons G Gs =>
          obtain ⟨g1, g2, g3⟩ := hgz
          rw [List.length_cons] at hDl hn
          have hcell : E0.length + x < (E0 ++ pL P).length := by rw [hxl]; omega
          have hsz : te.2.1 1 ((E0.length : Int) + (x : Int)) = (G.length : Int) := by
            have := (hC.2.2 (E0.length + x) hcell).2
            rw [tsz_app_r, g2] at this
            rw [show ((E0.length : Int) + (x : Int)) = ((E0.length + x : Nat) : Int) by omega]
            exact this
          have ht0 := hC.1
          have hWP : WE (pL P) := by
            obtain ⟨b, hb⟩ := PSh_tms hP
            exact WE_tms hb
          have hgl : G.length ≤ 2440 := by
            have h1 := (tsz_le hWP g1).2
            have h2 := (ov_40 hov).1
            omega
          refine ⟨⟨by omega, by omega⟩, ⟨by omega, by omega⟩, ⟨by omega, by omega⟩, fun hne => ?_, fun heq => ?_⟩
          · -- behind another one
            have hDne : D ≠ [] := fun w => hne (hd0 w).1
            have hDp : 0 < D.length := List.length_pos_iff.mpr hDne
            obtain ⟨q1, q2⟩ := hd1 hDne
            refine ⟨⟨by omega, by omega⟩, ⟨by show _ ≤ go'.1 0 + 1; omega, by show go'.1 0 + 1 ≤ _; omega⟩, fun w => by omega, fun _ => ⟨fun w => by omega, fun _ => ⟨⟨by omega, by omega⟩, ?_⟩⟩⟩
            rw [hsz]
            refine ⟨⟨by omega, by omega⟩, ⟨by omega, by omega⟩, ?_⟩
            rw [show (E0.length : Int) + (x : Int) + (G.length : Int) = (E0.length : Int) + ((x + G.length : Nat) : Int) by omega, show (D.length : Int) + 1 = ((D ++ [G]).length : Int) by rw [List.length_append, List.length_singleton]; omega]
            refine ih (D ++ [G]) Gs (x + G.length) _ _ (by rw [hD, List.append_assoc]; rfl) g3 (by omega) ?_ (fun y y0 y1 => ?_) (fun w => absurd w (by simp)) (fun _ => ⟨?_, ?_⟩) (fun _ => ?_) ?_
            · show go'.1 0 + 1 = _
              rw [List.length_append, List.length_singleton]; omega
            · show updI (go'.2.1 0) (go'.1 0) _ y = _ ∧ updI (go'.2.1 1) (go'.1 0) _ y = _ ∧ updI (updI (go'.2.1 2) (go'.1 0) _) x6 _ y = _
              unfold updI
              rw [if_neg (by omega), if_neg (by omega), if_neg (by omega), if_neg (by omega)]
              exact e1 y y0 y1
            · show go'.1 0 = go'.1 0 + 1 - 1; omega
            · intro b2 T r u' hb2 hb3 hu' b0 b1 hb hT
              have hb2 : ∀ y, 0 ≤ y → y < go'.1 0 + 1 - 1 → b2 y = updI (updI (go'.2.1 2) (go'.1 0) (go.1 1)) x6 (go'.1 0) y := hb2
              have hb3 : b2 (go'.1 0 + 1 - 1) = r := hb3
              have hu' : go'.1 0 + 1 ≤ u' := hu'
              have hb : ∀ y, 0 ≤ y → y < go'.1 0 + 1 → b0 y = updI (go'.2.1 0) (go'.1 0) ((E0.length : Int) + (x : Int)) y ∧ b1 y = updI (go'.2.1 1) (go'.1 0) (cut : Int) y := hb
              rw [show go'.1 0 + 1 - 1 = go'.1 0 by omega] at hb2 hb3
              have last : GoL b0 b1 b2 u' (go'.1 0) ((E0.length + x, cut) :: T) := by
                have hh := hb (go'.1 0) (by omega) (by omega)
                unfold updI at hh
                rw [if_pos rfl, if_pos rfl] at hh
                refine ⟨by omega, by omega, by rw [hh.1]; show (E0.length : Int) + (x : Int) = ((E0.length + x : Nat) : Int); omega, hh.2, ?_⟩
                rw [hb3]; exact hT
              have := q2 b2 ((E0.length + x, cut) :: T) (go'.1 0) u' (fun y y0 y1 => by
                rw [hb2 y y0 (by omega)]
                unfold updI
                rw [if_neg (by omega), if_neg (by omega)]) (by
                rw [hb2 _ (by omega) (by omega)]
                unfold updI
                rw [if_pos (by omega)]) (by omega) b0 b1 (fun y y0 y1 => by
                have := hb y y0 (by omega)
                unfold updI at this
                rw [if_neg (by omega), if_neg (by omega)] at this
                exact this) last
              have eb : ∀ (D : List (List Sy)) (z : Nat), bdG (D ++ [G]) z cut = bdG D z cut ++ [(z + D.flatten.length, cut)] := by
                intro D
                induction D with
                | nil => intro z; rfl
                | cons H D ihD =>
                  intro z
                  show (z, cut) :: bdG (D ++ [G]) (z + H.length) cut = (z, cut) :: (bdG D (z + H.length) cut ++ [(z + (H :: D).flatten.length, cut)])
                  rw [ihD, List.flatten_cons, List.length_append, show z + H.length + D.flatten.length = z + (H.length + D.flatten.length) by omega]
              have exf : P.1.length + D.flatten.length = x := by
                have h2 := hbd
                rw [hD] at h2
                have eb2 : ∀ (D : List (List Sy)) (z : Nat), bdG (D ++ G :: Gs) z cut = bdG D z cut ++ bdG (G :: Gs) (z + D.flatten.length) cut := by
                  intro D
                  induction D with
                  | nil => intro z; rfl
                  | cons H D ihD =>
                    intro z
                    show (z, cut) :: bdG (D ++ G :: Gs) (z + H.length) cut = (z, cut) :: (bdG D (z + H.length) cut ++ bdG (G :: Gs) (z + (H :: D).flatten.length) cut)
                    rw [ihD, List.flatten_cons, List.length_append, show z + H.length + D.flatten.length = z + (H.length + D.flatten.length) by omega]
                rw [eb2] at h2
                have h3 := List.append_cancel_left h2
                have h4 : (E0.length + P.1.length + D.flatten.length, cut) = (E0.length + x, cut) := (List.cons.inj h3).1
                have h5 := congrArg Prod.fst h4
                simp only at h5
                omega
              rw [eb D (E0.length + P.1.length), List.append_assoc]
              rw [show E0.length + P.1.length + D.flatten.length = E0.length + x by omega]
              exact this
            · show updI (updI (go'.2.1 2) (go'.1 0) (go.1 1)) x6 (go'.1 0) (go'.1 0 + 1 - 1) = go.1 1
              unfold updI
              rw [if_neg (by omega), if_pos (by omega)]
            · rw [hbd]
              have eb : ∀ (D : List (List Sy)) (z : Nat), bdG (D ++ [G]) z cut = bdG D z cut ++ [(z + D.flatten.length, cut)] := by
                intro D
                induction D with
                | nil => intro z; rfl
                | cons H D ihD =>
                  intro z
                  show (z, cut) :: bdG (D ++ [G]) (z + H.length) cut = (z, cut) :: (bdG D (z + H.length) cut ++ [(z + (H :: D).flatten.length, cut)])
                  rw [ihD, List.flatten_cons, List.length_append, show z + H.length + D.flatten.length = z + (H.length + D.flatten.length) by omega]
              have exf : E0.length + P.1.length + D.flatten.length = E0.length + x := by
                have h2 := hbd
                rw [hD] at h2
                have eb2 : ∀ (D : List (List Sy)) (z : Nat), bdG (D ++ G :: Gs) z cut = bdG D z cut ++ bdG (G :: Gs) (z + D.flatten.length) cut := by
                  intro D
                  induction D with
                  | nil => intro z; rfl
                  | cons H D ihD =>
                    intro z
                    show (z, cut) :: bdG (D ++ G :: Gs) (z + H.length) cut = (z, cut) :: (bdG D (z + H.length) cut ++ bdG (G :: Gs) (z + (H :: D).flatten.length) cut)
                    rw [ihD, List.flatten_cons, List.length_append, show z + H.length + D.flatten.length = z + (H.length + D.flatten.length) by omega]
                rw [eb2] at h2
                have h3 := List.append_cancel_left h2
                have h4 : (E0.length + P.1.length + D.flatten.length, cut) = (E0.length + x, cut) := (List.cons.inj h3).1
                exact congrArg Prod.fst h4
              rw [eb, exf, List.append_assoc]
              show _ ++ ((E0.length + x, cut) :: bdG Gs (E0.length + x + G.length) cut) = _ ++ ([(E0.length + x, cut)] ++ bdG Gs (E0.length + (x + G.length)) cut)
              rw [show E0.length + x + G.length = E0.length + (x + G.length) by omega]
              rfl
          · -- the first one
            have hDe : D = [] := by
              by_cases w : D = []
              · exact w
              · have := (hd1 w).1
                cases D with
                | nil => rfl
                | cons a D => rw [List.length_cons] at e0; omega
            subst hDe
            have hx : P.1.length = x := by
              have h2 := hbd
              rw [hD] at h2
              have h4 : (E0.length + P.1.length, cut) = (E0.length + x, cut) := (List.cons.inj h2).1
              have h5 := congrArg Prod.fst h4
              simp only at h5
              omega
            rw [List.length_nil] at e0
            refine ⟨⟨by show _ ≤ go'.1 0 + 1; omega, by show go'.1 0 + 1 ≤ _; omega⟩, fun w => by omega, fun _ => ⟨fun w => by omega, fun _ => ⟨⟨by omega, by omega⟩, ?_⟩⟩⟩
            rw [hsz]
            refine ⟨⟨by omega, by omega⟩, ⟨by decide, by decide⟩, ?_⟩
            rw [show (E0.length : Int) + (x : Int) + (G.length : Int) = (E0.length : Int) + ((x + G.length : Nat) : Int) by omega]
            refine ih [G] Gs (x + G.length) _ _ (by rw [hD]; rfl) g3 (by omega) ?_ (fun y y0 y1 => ?_) (fun w => by cases w) (fun _ => ⟨?_, ?_⟩) (fun _ => ?_) ?_
            · show go'.1 0 + 1 = go.1 0 + ((1 : Nat) : Int); omega
            · show updI (go'.2.1 0) (go'.1 0) _ y = _ ∧ updI (go'.2.1 1) (go'.1 0) _ y = _ ∧ updI (go'.2.1 2) (go'.1 0) _ y = _
              unfold updI
              rw [if_neg (by omega), if_neg (by omega), if_neg (by omega)]
              exact e1 y y0 y1
            · show go'.1 0 = go'.1 0 + 1 - 1; omega
            · intro b2 T r u' hb2 hb3 hu' b0 b1 hb hT
              have hb3 : b2 (go'.1 0 + 1 - 1) = r := hb3
              have hu' : go'.1 0 + 1 ≤ u' := hu'
              have hb : ∀ y, 0 ≤ y → y < go'.1 0 + 1 → b0 y = updI (go'.2.1 0) (go'.1 0) ((E0.length : Int) + (x : Int)) y ∧ b1 y = updI (go'.2.1 1) (go'.1 0) (cut : Int) y := hb
              rw [show go'.1 0 + 1 - 1 = go'.1 0 by omega] at hb3
              show GoL b0 b1 b2 u' (go'.1 0) ((E0.length + P.1.length, cut) :: T)
              have hh := hb (go'.1 0) (by omega) (by omega)
              unfold updI at hh
              rw [if_pos rfl, if_pos rfl] at hh
              refine ⟨by omega, by omega, by rw [hh.1]; show (E0.length : Int) + (x : Int) = ((E0.length + P.1.length : Nat) : Int); omega, hh.2, ?_⟩
              rw [hb3]; exact hT
            · show updI (go'.2.1 2) (go'.1 0) (go.1 1) (go'.1 0 + 1 - 1) = go.1 1
              unfold updI
              rw [if_pos (by omega)]
            · rw [hbd]
              show (E0.length + x, cut) :: bdG Gs (E0.length + x + G.length) cut = (E0.length + P.1.length, cut) :: bdG Gs (E0.length + (x + G.length)) cut
              rw [hx, show E0.length + x + G.length = E0.length + (x + G.length) by omega]
  refine ⟨P.2.length + 1, ?_⟩
  exact loop (P.2.length + 1) [] P.2 P.1.length (-1) go rfl hz (by omega) (by simp) (fun _ _ _ => ⟨rfl, rfl, rfl⟩) (fun _ => ⟨rfl, rfl⟩) (fun w => absurd rfl w) (fun w => absurd rfl w) rfl
