/-! the pure part: the class's readList and readTerm -/
section RTD
variable {tk : Ob} {kE : Int → Int} {wE : Int → Nat} {N : Int} {Inv : List Sy → Ob → Ob → Ob → Prop} {Pos : List Sy → Nat → Int → Prop}
theorem rl_end (hT : TokC tk kE wE N) (hE : EmC Inv Pos) {RT : Ob → Ob → Ob → Ob → (Int → Ob → Ob → Ob → Prop) → Prop} {o k : Int} {E : List Sy} {nm rc rd : Ob} {K : Int → Ob → Ob → Ob → Prop} (hI : Inv E nm rc rd) (h3 : rd.1 3 = o + 1) (h4 : rd.1 4 = k) (hk : 0 ≤ k) (ho : 0 ≤ o ∧ o < 15) (h1 : kE k = 93 → ∀ rd', Inv E nm rc rd' → rd'.1 3 = o → rd'.1 4 = k + 1 → K 1 nm rc rd') (h0 : kE k ≠ 93 → ∀ rd', Inv E nm rc rd' → rd'.1 4 = k → K 0 nm rc rd') : Rd_readList_99 RT tk nm rc rd K := by
  refine ⟨⟨by omega, by omega⟩, ?_⟩
  have hI3 := (hE.1 _ _ _ _ (rd.1 3 - 1) hI).1
  refine sp_accept hT (by decide) (by show 0 ≤ rd.1 4; omega) (fun e hl => ⟨Or.inr rfl, ?_⟩) (fun e => ⟨Or.inl rfl, ?_⟩)
  · exact h1 (by rw [← h4]; exact e) _ (hE.1 _ _ _ _ _ hI3).2 (by show rd.1 3 - 1 = o; omega) (by show rd.1 4 + 1 = k + 1; omega)
  · exact h0 (by rw [← h4]; exact e) _ hI3 (by show rd.1 4 = k; omega)
theorem rl_C (hT : TokC tk kE wE N) (hE : EmC Inv Pos) {d : Nat} (hR : RTd tk kE wE N Inv d) {o : Int} (ho : 0 ≤ o ∧ o < 15) (hd : 16 ≤ (d : Int) + (o + 1)) {K : Int → Ob → Ob → Ob → Prop} :
    ∀ (n : Nat) (x3 k : Int) (E : List Sy) (nm rc rd : Ob), Inv E nm rc rd → rd.1 3 = o + 1 → rd.1 4 = k → 0 ≤ k → k ≤ N → 0 ≤ x3 → x3 ≤ k → x3 < 240 → 241 ≤ (n : Int) + x3 → (E.length : Int) + 1 ≤ k →
    (∀ (ok : Bool) (k' : Int) (j : Nat) (S : List Sy) (nm' rc' rd' : Ob), PLst kE (PT kE wE d (o + 1)) j k k' ok S → rd'.1 4 = k' → k ≤ k' → (ok = true → Inv (E ++ S) nm' rc' rd' ∧ rd'.1 3 = o ∧ k < k' ∧ ((E ++ S).length : Int) ≤ k' ∧ k' ≤ N) → (ok = false → ∃ E', Inv E' nm' rc' rd') → K (b2i ok) nm' rc' rd') →
    Rd_readList_26 (fun tk' nm' rc' rd' K => wp_Rd_readTerm d tk' nm' rc' rd' K) n 1 x3 tk nm rc rd K := by
  intro n
  induction n with
  | zero => intro x3 k E nm rc rd _ _ _ _ _ _ _ _ h; omega
  | succ n ih =>
    intro x3 k E nm rc rd hI h3 h4 hk hkN x0 xk x240 hn hEl hK
    have hN := hT.2.2.2.1
    refine ⟨fun z => by omega, fun _ => ⟨fun z => absurd z (by decide), fun _ => ?_⟩⟩
    refine hE.2.2.2.1 E nm rc rd _ hI (by omega) (fun rc0 hI0 => ?_)
    refine hR (o + 1) k _ nm rc0 rd _ hI0 h3 h4 hk (by omega) (by omega) hd (by simp only [List.length_append, List.length_cons, List.length_nil]; omega) (fun ok k1 S1 nm1 rc1 rd1 hp h14 hk1 hok hno => ?_)
    cases ok with
    | false =>
      refine ⟨fun z => absurd rfl z, fun _ => ?_⟩
      exact hK false k1 1 _ nm1 rc1 rd1 (Or.inl ⟨S1, hp, rfl, rfl⟩) h14 hk1 (fun z => by cases z) hno
    | true =>
      obtain ⟨hI1, h13, hlt, hl1, hb1⟩ := hok rfl
      simp only [List.length_append, List.length_cons, List.length_nil] at hl1
      refine ⟨fun _ => ?_, fun z => absurd z (by decide)⟩
      have hI1' : Inv (E ++ ((2, 1) :: S1)) nm1 rc1 rd1 := by
        have := hI1
        rw [List.append_assoc] at this
        exact this
      refine sp_accept hT (by decide) (by omega) (fun e44 hlN => ⟨⟨by omega, by omega⟩, ?_⟩) (fun e44 => ⟨⟨by omega, by omega⟩, ?_⟩)
      · rw [h14] at e44 hlN
        refine ih (x3 + 1) (k1 + 1) (E ++ ((2, 1) :: S1)) nm1 rc1 _ (hE.1 _ _ _ _ _ hI1').2 h13 (by show rd1.1 4 + 1 = k1 + 1; omega) (by omega) (by omega) (by omega) (by omega) (by omega) (by omega) (by simp only [List.length_append, List.length_cons]; omega) (fun ok k' j S2 nm' rc' rd' hp2 q1 q2 q3 q4 => ?_)
        refine hK ok k' (j + 1) ((2, 1) :: (S1 ++ S2)) nm' rc' rd' (Or.inr (Or.inr (Or.inr (Or.inr ⟨k1, S1, S2, hp, e44, hp2, rfl⟩)))) q1 (by omega) (fun z => ?_) q4
        obtain ⟨g1, g2, g3, g4, g5⟩ := q3 z
        rw [List.append_assoc] at g1 g4
        exact ⟨g1, g2, by omega, g4, g5⟩
      · rw [h14] at e44
        have tail : Rd_readList_69 (fun tk' nm' rc' rd' K => wp_Rd_readTerm d tk' nm' rc' rd' K) tk nm1 rc1 rd1 K := by
          refine sp_accept hT (by decide) (by omega) (fun e124 hlN => ⟨fun _ => ?_, fun z => absurd z (by decide)⟩) (fun e124 => ⟨fun z => absurd rfl z, fun _ => ?_⟩)
          · rw [h14] at e124 hlN
            refine hR (o + 1) (k1 + 1) _ nm1 rc1 _ _ (hE.1 _ _ _ _ _ hI1').2 h13 (by show rd1.1 4 + 1 = k1 + 1; omega) (by omega) (by omega) (by omega) hd (by simp only [List.length_append, List.length_cons]; omega) (fun ok k2 S2 nm2 rc2 rd2 hp2 h24 hk2 hok2 hno2 => ?_)
            cases ok with
            | false =>
              refine ⟨fun z => absurd rfl z, fun _ => ?_⟩
              exact hK false k2 1 _ nm2 rc2 rd2 (Or.inr (Or.inr (Or.inl ⟨k1, S1, S2, hp, e124, hp2, rfl, rfl⟩))) h24 (by omega) (fun z => by cases z) hno2
            | true =>
              obtain ⟨hI2, h23, hlt2, hl2, hb2⟩ := hok2 rfl
              simp only [List.length_append, List.length_cons, List.length_nil] at hl2
              refine ⟨fun _ => ?_, fun z => absurd z (by decide)⟩
              have hI2' : Inv (E ++ ((2, 1) :: (S1 ++ S2))) nm2 rc2 rd2 := by
                have := hI2
                rw [List.append_assoc] at this
                exact this
              refine rl_end hT hE hI2' h23 h24 (by omega) ho (fun e rd' g1 g2 g3 => ?_) (fun e rd' g1 g3 => ?_)
              · exact hK true (k2 + 1) 1 _ nm2 rc2 rd' (Or.inr (Or.inr (Or.inr (Or.inl ⟨k1, k2, S1, S2, hp, e124, hp2, rfl, Or.inl ⟨e, rfl, rfl⟩⟩)))) g3 (by omega) (fun _ => ⟨g1, g2, by omega, by simp only [List.length_append, List.length_cons]; omega, by have := hT.2.2.1 k2 (by omega) (by rw [e]; decide); omega⟩) (fun z => by cases z)
              · exact hK false k2 1 _ nm2 rc2 rd' (Or.inr (Or.inr (Or.inr (Or.inl ⟨k1, k2, S1, S2, hp, e124, hp2, rfl, Or.inr ⟨e, rfl, rfl⟩⟩)))) g3 (by omega) (fun z => by cases z) (fun _ => ⟨_, g1⟩)
          · rw [h14] at e124
            refine hE.2.2.2.2.1 _ nm1 rc1 rd1 _ hI1' (by simp only [List.length_append, List.length_cons]; omega) (fun rc2 hI2 => ?_)
            have hI2' : Inv (E ++ ((2, 1) :: (S1 ++ [(0, 2)]))) nm1 rc2 rd1 := by
              have := hI2
              rw [List.append_assoc] at this
              exact this
            refine rl_end hT hE hI2' h13 h14 (by omega) ho (fun e rd' g1 g2 g3 => ?_) (fun e rd' g1 g3 => ?_)
            · exact hK true (k1 + 1) 1 _ nm1 rc2 rd' (Or.inr (Or.inl ⟨k1, S1, hp, e44, e124, rfl, Or.inl ⟨e, rfl, rfl⟩⟩)) g3 (by omega) (fun _ => ⟨g1, g2, by omega, by simp only [List.length_append, List.length_cons, List.length_nil]; omega, by have := hT.2.2.1 k1 (by omega) (by rw [e]; decide); omega⟩) (fun z => by cases z)
            · exact hK false k1 1 _ nm1 rc2 rd' (Or.inr (Or.inl ⟨k1, S1, hp, e44, e124, rfl, Or.inr ⟨e, rfl, rfl⟩⟩)) g3 (by omega) (fun z => by cases z) (fun _ => ⟨_, g1⟩)
        cases n with
        | zero => omega
        | succ n => exact ⟨fun _ => tail, fun _ => ⟨fun _ => tail, fun z => absurd rfl z⟩⟩
theorem rt_C (hT : TokC tk kE wE N) (hE : EmC Inv Pos) : ∀ d : Nat, RTd tk kE wE N Inv d := by
  intro d
  induction d with
  | zero => intro o k E nm rc rd K _ _ _ _ _ _ h _; omega
  | succ d ih =>
    intro o k E nm rc rd K hI h3 h4 hk ho0 ho hd hEl hK
    have hN := hT.2.2.2.1
    have k4 : 0 ≤ rd.1 4 := by omega
    show bd_Rd_readTerm (fun tk' nm' rc' rd' K => wp_Rd_readTerm d tk' nm' rc' rd' K) tk nm rc rd K
    refine sp_isAt hT k4 (fun e65 => ⟨fun z => absurd z (by decide), fun _ => ?_⟩) (fun e65 => ⟨fun _ => ?_, fun z => absurd rfl z⟩)
    · -- a variable
      have hkN := hT.2.2.1 _ k4 (by rw [e65]; decide)
      refine hT.2.1 _ _ k4 hkN ?_
      refine hE.2.1 E nm rc rd _ _ hI (by omega) (fun rc' rd' g1 g2 g3 => ⟨⟨by omega, by omega⟩, ?_⟩)
      rw [h4] at e65 g1
      exact hK true (k + 1) _ nm rc' _ (Or.inl ⟨e65, rfl, rfl, rfl⟩) (by show rd'.1 4 + 1 = k + 1; omega) (by omega) (fun _ => ⟨(hE.1 _ _ _ _ _ g1).2, by show rd'.1 3 = o; omega, by omega, by simp only [List.length_append, List.length_cons, List.length_nil]; omega, by omega⟩) (fun z => by cases z)
    · refine sp_isAt hT k4 (fun e97 => ⟨fun z => absurd z (by decide), fun _ => ?_⟩) (fun e97 => ⟨fun _ => ?_, fun z => absurd rfl z⟩)
      · -- a name
        have hkN := hT.2.2.1 _ k4 (by rw [e97]; decide)
        refine hT.2.1 _ _ k4 hkN ?_
        refine hE.2.2.1 E nm rc rd _ _ hI (by omega) (hT.2.2.2.2 _ k4 e97).1 (hT.2.2.2.2 _ k4 e97).2 (fun nm' rc' g1 r hr => ⟨⟨by omega, by omega⟩, ?_⟩)
        rw [h4] at e97 g1 e65 hr
        have g2 := (hE.1 _ _ _ _ (rd.1 4 + 1) g1).2
        refine sp_isAt hT (by show 0 ≤ rd.1 4 + 1; omega) (fun e40 => ⟨fun z => absurd z (by decide), fun _ => ?_⟩) (fun e40 => ⟨fun _ => ?_, fun z => absurd rfl z⟩)
        · have e40 : kE (k + 1) = 40 := by rw [← h4]; exact e40
          have hk1N := hT.2.2.1 (k + 1) (by omega) (by rw [e40]; decide)
          refine ⟨fun h15 => ⟨⟨?_, ?_⟩, ⟨?_, ?_⟩, fun _ => ⟨242, ?_⟩, fun z => absurd z (by decide)⟩, fun h15 => ⟨fun z => absurd rfl z, fun _ => ?_⟩⟩
          · show (-2147483648 : Int) ≤ rd.1 3 + 1; omega
          · show rd.1 3 + 1 ≤ 2147483647; omega
          · show (-2147483648 : Int) ≤ rd.1 4 + 1 + 1; omega
          · show rd.1 4 + 1 + 1 ≤ 2147483647; omega
          · have h15 : rd.1 3 < 15 := h15
            have hx := ra_C hT hE ih (o := o) ⟨ho0, by omega⟩ (by omega) (E := E) (w := wE k) (r := r) hr (K := fun r_17 nm_14 rc_15 rd_16 => ((r_17 = 0 → K 0 nm_14 rc_15 rd_16) ∧ (¬ r_17 = 0 → K 1 nm_14 rc_15 rd_16))) 242 0 0 (k + 2) [] nm' rc' (sI (sI (sI rd 4 (rd.1 4 + 1)) 3 (rd.1 3 + 1)) 4 (rd.1 4 + 1 + 1)) (hE.1 _ _ _ _ _ (hE.1 _ _ _ _ _ g2).1).2 (by show rd.1 3 + 1 = o + 1; omega) (by show rd.1 4 + 1 + 1 = k + 2; omega) (by omega) (by omega) (by omega) (by omega) (by decide) (by decide) (by omega) (by simp only [List.length_append, List.length_cons, List.length_nil]; omega) (fun ok k' j a S2 nm2 rc2 rd2 hp q1 q2 q3 q4 => ?_)
            · exact hx
            · have hpt : PT kE wE (d + 1) o k k' ok ((((a : Nat) : Int), wE k) :: S2) := Or.inr (Or.inr (Or.inr (Or.inl ⟨e97, e40, by omega, j, a, S2, hp, rfl⟩)))
              have hfin := hK ok k' ((((a : Nat) : Int), wE k) :: S2) nm2 rc2 rd2 hpt q1 (by omega) (fun z => by
                obtain ⟨w1, w2, w3, w4, w5⟩ := q3 z
                rw [Nat.zero_add] at w1
                exact ⟨w1, w2, by omega, by simp only [List.length_append, List.length_cons, List.length_nil, List.nil_append] at w4 ⊢; omega, w5⟩) q4
              cases ok with
              | true => exact ⟨fun z => absurd z (by decide), fun _ => hfin⟩
              | false => exact ⟨fun _ => hfin, fun z => absurd rfl z⟩
          · have h15 : ¬ rd.1 3 < 15 := h15
            exact ⟨fun _ => hK false (k + 1) _ nm' rc' _ (Or.inr (Or.inr (Or.inl ⟨e97, e40, by omega, rfl, rfl, rfl⟩))) (by show rd.1 4 + 1 = k + 1; omega) (by omega) (fun z => by cases z) (fun _ => ⟨_, g2⟩), fun z => absurd rfl z⟩
        · have e40 : kE (k + 1) ≠ 40 := by rw [← h4]; exact e40
          exact hK true (k + 1) _ nm' rc' _ (Or.inr (Or.inl ⟨e97, e40, rfl, rfl, rfl⟩)) (by show rd.1 4 + 1 = k + 1; omega) (by omega) (fun _ => ⟨g2, by show rd.1 3 = o; omega, by omega, by simp only [List.length_append, List.length_cons, List.length_nil]; omega, by omega⟩) (fun z => by cases z)
      · refine sp_isAt hT k4 (fun e91 => ⟨fun z => absurd z (by decide), fun _ => ?_⟩) (fun e91 => ⟨fun _ => ?_, fun z => absurd rfl z⟩)
        · -- a list
          have hkN := hT.2.2.1 _ k4 (by rw [e91]; decide)
          rw [h4] at e65 e97 e91
          have fin : ∀ (ok : Bool) (k' : Int) (S : List Sy) (nm2 rc2 rd2 : Ob), K (b2i ok) nm2 rc2 rd2 → ((b2i ok = 0 → K 0 nm2 rc2 rd2) ∧ (¬ b2i ok = 0 → K 1 nm2 rc2 rd2)) := fun ok k' S nm2 rc2 rd2 h => by
            cases ok with
            | true => exact ⟨fun z => absurd z (by decide), fun _ => h⟩
            | false => exact ⟨fun _ => h, fun z => absurd rfl z⟩
          refine ⟨fun h15 => ⟨⟨by omega, by omega⟩, ⟨by omega, by omega⟩, fun _ => ?_, fun z => absurd z (by decide)⟩, fun h15 => ⟨fun z => absurd rfl z, fun _ => ?_⟩⟩
          · have gI := (hE.1 _ _ _ _ (rd.1 4 + 1) (hE.1 _ _ _ _ (rd.1 3 + 1) hI).1).2
            refine sp_isAt hT (by show 0 ≤ rd.1 4 + 1; omega) (fun e93 => ⟨fun _ => ?_, fun z => absurd z (by decide)⟩) (fun e93 => ⟨fun z => absurd rfl z, fun _ => ?_⟩)
            · have e93 : kE (k + 1) = 93 := by rw [← h4]; exact e93
              refine ⟨1, ⟨fun z => by omega, fun _ => ⟨fun _ => ?_, fun z => absurd rfl z⟩⟩⟩
              refine sp_accept hT (by decide) (by show 0 ≤ rd.1 4 + 1; omega) (fun e124 hlN => absurd (show kE (k + 1) = 124 by rw [← h4]; exact e124) (by omega)) (fun e124 => ⟨fun z => absurd rfl z, fun _ => ?_⟩)
              refine hE.2.2.2.2.1 _ nm rc _ _ gI (by omega) (fun rc2 hI2 => ?_)
              refine rl_end hT hE (o := o) (k := k + 1) hI2 (by show rd.1 3 + 1 = o + 1; omega) (by show rd.1 4 + 1 = k + 1; omega) (by omega) ⟨ho0, by omega⟩ (fun e rd' g1 g2 g3 => ?_) (fun e => absurd e93 e)
              exact fin true (k + 2) [] _ _ _ (hK true (k + 2) _ nm rc2 rd' (Or.inr (Or.inr (Or.inr (Or.inr (Or.inr (Or.inl ⟨e91, by omega, e93, rfl, rfl, rfl⟩)))))) (by omega) (by omega) (fun _ => ⟨g1, g2, by omega, by simp only [List.length_append, List.length_cons, List.length_nil]; omega, by have := hT.2.2.1 (k + 1) (by omega) (by rw [e93]; decide); omega⟩) (fun z => by cases z))
            · have e93 : kE (k + 1) ≠ 93 := by rw [← h4]; exact e93
              refine ⟨242, rl_C hT hE ih (o := o) ⟨ho0, by omega⟩ (by omega) 242 0 (k + 1) E nm rc _ gI (by show rd.1 3 + 1 = o + 1; omega) (by show rd.1 4 + 1 = k + 1; omega) (by omega) (by omega) (by omega) (by omega) (by decide) (by decide) (by omega) (fun ok k' j S nm2 rc2 rd2 hp q1 q2 q3 q4 => ?_)⟩
              exact fin ok k' S _ _ _ (hK ok k' S nm2 rc2 rd2 (Or.inr (Or.inr (Or.inr (Or.inr (Or.inr (Or.inr (Or.inl ⟨e91, by omega, e93, j, hp⟩))))))) q1 (by omega) (fun z => ⟨(q3 z).1, (q3 z).2.1, by have := (q3 z).2.2.1; omega, (q3 z).2.2.2⟩) q4)
          · exact fin false k [] _ _ _ (hK false k _ nm rc rd (Or.inr (Or.inr (Or.inr (Or.inr (Or.inl ⟨e91, by omega, rfl, rfl, rfl⟩))))) h4 (by omega) (fun z => by cases z) (fun _ => ⟨_, hI⟩))
        · rw [h4] at e65 e97 e91
          exact hK false k _ nm rc rd (Or.inr (Or.inr (Or.inr (Or.inr (Or.inr (Or.inr (Or.inr ⟨e65, e97, e91, rfl, rfl, rfl⟩))))))) h4 (by omega) (fun z => by cases z) (fun _ => ⟨_, hI⟩)
end RTD
