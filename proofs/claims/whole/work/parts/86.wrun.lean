/-! answer: a run of the entries -/
section WR
variable {NL : List Nat} {E : List Sy} {g : Nat → Nat} {D : Nat}
theorem Ms_len : ∀ st : List It, Ms E g D 0 1 0 0 st + Ms E g D 0 0 1 0 st + Ms E g D 0 0 0 1 st = st.length
  | [] => rfl
  | i :: st => by
    have ih := Ms_len st
    rw [Ms_cons, Ms_cons, Ms_cons, List.length_cons]
    unfold ms
    by_cases w : i.1 = 0
    · rw [if_pos w, if_pos w, if_pos w]
      omega
    · by_cases w1 : i.1 = 1
      · rw [if_neg w, if_neg w, if_neg w, if_pos w1, if_pos w1, if_pos w1]
        omega
      · rw [if_neg w, if_neg w, if_neg w, if_neg w1, if_neg w1, if_neg w1]
        omega
theorem wn_1 {SA Sr Sc PA Pr Pc mA mr mc n : Nat} (hn : 8 * (mA + SA) + 2 * (mr + Sr) + (mc + Sc) < n + 1) (k4 : 8 * PA + 2 * Pr + Pc + 1 ≤ 8 * mA + 2 * mr + mc) : 8 * (PA + SA) + 2 * (Pr + Sr) + (Pc + Sc) < n := by omega
theorem wn_2 {SA St Sc PA Pt Pc mA mt mc : Nat} (h3 : 3 * (mA + SA) + (mc + Sc) ≤ 360 + (mt + St)) (k1 : 3 * PA + Pc + mt ≤ 3 * mA + mc + Pt) : 3 * (PA + SA) + (Pc + Sc) ≤ 360 + (Pt + St) := by omega
theorem wn_3 {SA St Sc PA Pt Pc mA mt mc lo so : Nat} (h10 : 10 * (mA + SA) + (mc + Sc) + lo ≤ 1200 + 2 * (mt + St)) (k2 : 10 * PA + Pc + so + 2 * mt ≤ 10 * mA + mc + 2 * Pt) : 10 * (PA + SA) + (Pc + Sc) + (lo + so) ≤ 1200 + 2 * (Pt + St) := by omega
theorem wn_4 {SA St Sr PA Pt Pr mA mt mr N NN : Nat} (hN : 3 * (mA + SA) + (mt + St) + (mr + Sr) + 4 * N ≤ 368) (k3 : 3 * PA + Pt + Pr + 4 * NN ≤ 3 * mA + mt + mr + 4 * N) : 3 * (PA + SA) + (Pt + St) + (Pr + Sr) + 4 * NN ≤ 368 := by omega
theorem wn_5 {SA St Sr Sc PA Pt Pr Pc lo so : Nat} (h : 10 * (PA + SA) + (Pc + Sc) + (lo + so) ≤ 1200 + 2 * (Pt + St)) (a : Pt + Pr ≤ PA) (b : St + Sr ≤ SA) : lo + so ≤ 1200 := by omega
theorem wn_6 {SA St Sr Sc mA mt mc lo : Nat} (h10 : 10 * (mA + SA) + (mc + Sc) + lo ≤ 1200 + 2 * (mt + St)) (a : 1 ≤ mA) (b : mt = 1) (c : St + Sr ≤ SA) : lo + 3 ≤ 1200 := by omega
theorem wn_7 {SA St Sr Sc PA Pt Pr Pc : Nat} (h : 3 * (PA + SA) + (Pc + Sc) ≤ 360 + (Pt + St)) (a : Pt + Pr ≤ PA) (b : St + Sr ≤ SA) : St + Sr + Sc + (Pt + Pr + Pc) ≤ 512 := by omega
theorem wn_8 {SA St Sr Sc mA mt mr mc : Nat} (h : 3 * (mA + SA) + (mc + Sc) ≤ 360 + (mt + St)) (a : mt + mr ≤ mA) (b : St + Sr ≤ SA) : St + Sr + Sc + 2 ≤ 512 := by omega
theorem wn_9 {SA St Sc PA Pt Pc mA mt mc lo so o : Nat} (k2 : 10 * PA + Pc + so + 2 * mt ≤ 10 * mA + mc + 2 * Pt) (r : o + 2 * (Pt + St) ≤ lo + so + 10 * (PA + SA) + (Pc + Sc)) : o + 2 * (mt + St) ≤ lo + 10 * (mA + SA) + (mc + Sc) := by omega
theorem wn_10 {SA St Sr PA Pt Pr mA mt mr N NN N' : Nat} (k3 : 3 * PA + Pt + Pr + 4 * NN ≤ 3 * mA + mt + mr + 4 * N) (r : 4 * N' ≤ 4 * NN + 3 * (PA + SA) + (Pt + St) + (Pr + Sr)) : 4 * N' ≤ 4 * N + 3 * (mA + SA) + (mt + St) + (mr + Sr) := by omega
theorem runC_of (hW : WE E) (hO : OkE NL E) (hr : ∀ x, x < E.length → g x < E.length ∧ g (g x) = g x) (hD : ∀ x, x < E.length → Dp E g D x) (hcut : ∀ x, x < E.length → ∀ k, k < nA E x → en E (g (ch E x k)) ≠ (-2, 0)) (hgg : ∀ x, x < E.length → (TL E g D (g x)).length = (TL E g D x).length) : ∀ (n : Nat) (st : List It) (N : List Nat) (out : List Int), (∀ i ∈ st, goodI E g i) → 8 * Ms E g D 1 0 0 0 st + 2 * Ms E g D 0 0 1 0 st + Ms E g D 0 0 0 1 st < n → 3 * Ms E g D 1 0 0 0 st + Ms E g D 0 0 0 1 st ≤ 360 + Ms E g D 0 1 0 0 st → 10 * Ms E g D 1 0 0 0 st + Ms E g D 0 0 0 1 st + out.length ≤ 1200 + 2 * Ms E g D 0 1 0 0 st → 3 * Ms E g D 1 0 0 0 st + Ms E g D 0 1 0 0 st + Ms E g D 0 0 1 0 st + 4 * N.length ≤ 368 → ∃ out' N', runC E g n st N out out' N' ∧ out'.length + 2 * Ms E g D 0 1 0 0 st ≤ out.length + 10 * Ms E g D 1 0 0 0 st + Ms E g D 0 0 0 1 st ∧ 4 * N'.length ≤ 4 * N.length + 3 * Ms E g D 1 0 0 0 st + Ms E g D 0 1 0 0 st + Ms E g D 0 0 1 0 st := by
  intro n
  induction n with
  | zero => intro st N out _ h; exact absurd h (Nat.not_lt_zero _)
  | succ n ih =>
    intro st N out hst hn h3 h10 hN
    cases st with
    | nil => exact ⟨out, N, ⟨rfl, rfl⟩, by rw [Ms_nil, Ms_nil, Ms_nil]; omega, by rw [Ms_nil, Ms_nil, Ms_nil]; omega⟩
    | cons i st =>
      have hi := hst i List.mem_cons_self
      have hst' : ∀ j ∈ st, goodI E g j := fun j hj => hst j (List.mem_cons_of_mem _ hj)
      have hge := Ms_ge hD hst'
      have hlen := Ms_len (E := E) (g := g) (D := D) st
      have hgood : ∀ j ∈ (stp E g i N).2.1 ++ st, goodI E g j := fun j hj => by
        rcases List.mem_append.mp hj with w | w
        · exact stp_good hW hr hcut hi j w
        · exact hst' j w
      have hge2 := Ms_ge hD (stp_good (N := N) hW hr hcut hi)
      have hlen2 := Ms_len (E := E) (g := g) (D := D) (stp E g i N).2.1
      have hih := ih ((stp E g i N).2.1 ++ st) (stp E g i N).2.2 (out ++ (stp E g i N).1) hgood
      rw [Ms_app, Ms_app, Ms_app, Ms_app, List.length_append] at hih
      rw [Ms_cons, Ms_cons, Ms_cons] at hn
      rw [Ms_cons, Ms_cons, Ms_cons] at h3
      rw [Ms_cons, Ms_cons, Ms_cons] at h10
      rw [Ms_cons, Ms_cons, Ms_cons] at hN
      rw [Ms_cons, Ms_cons, Ms_cons, Ms_cons]
      have fin : ∀ (mA mt mr mc : Nat), ms E g D 1 0 0 0 i = mA → ms E g D 0 1 0 0 i = mt → ms E g D 0 0 1 0 i = mr → ms E g D 0 0 0 1 i = mc → 3 * Ms E g D 1 0 0 0 (stp E g i N).2.1 + Ms E g D 0 0 0 1 (stp E g i N).2.1 + mt ≤ 3 * mA + mc + Ms E g D 0 1 0 0 (stp E g i N).2.1 → 10 * Ms E g D 1 0 0 0 (stp E g i N).2.1 + Ms E g D 0 0 0 1 (stp E g i N).2.1 + (stp E g i N).1.length + 2 * mt ≤ 10 * mA + mc + 2 * Ms E g D 0 1 0 0 (stp E g i N).2.1 → 3 * Ms E g D 1 0 0 0 (stp E g i N).2.1 + Ms E g D 0 1 0 0 (stp E g i N).2.1 + Ms E g D 0 0 1 0 (stp E g i N).2.1 + 4 * (stp E g i N).2.2.length ≤ 3 * mA + mt + mr + 4 * N.length → 8 * Ms E g D 1 0 0 0 (stp E g i N).2.1 + 2 * Ms E g D 0 0 1 0 (stp E g i N).2.1 + Ms E g D 0 0 0 1 (stp E g i N).2.1 + 1 ≤ 8 * mA + 2 * mr + mc → 1 ≤ (stp E g i N).1.length ∨ (i.1 = 0 ∧ 1 ≤ mA ∧ mt = 1) → (i.1 = 0 → 1 ≤ mA ∧ mt = 1) → mt + mr ≤ mA → ∃ out' N', runC E g (n + 1) (i :: st) N out out' N' ∧ out'.length + 2 * (ms E g D 0 1 0 0 i + Ms E g D 0 1 0 0 st) ≤ out.length + 10 * (ms E g D 1 0 0 0 i + Ms E g D 1 0 0 0 st) + (ms E g D 0 0 0 1 i + Ms E g D 0 0 0 1 st) ∧ 4 * N'.length ≤ 4 * N.length + 3 * (ms E g D 1 0 0 0 i + Ms E g D 1 0 0 0 st) + (ms E g D 0 1 0 0 i + Ms E g D 0 1 0 0 st) + (ms E g D 0 0 1 0 i + Ms E g D 0 0 1 0 st) := by
        intro mA mt mr mc e1 e2 e3 e4
        rw [e1, e2, e3, e4]
        rw [e1, e3, e4] at hn
        rw [e1, e2, e4] at h3
        rw [e1, e2, e4] at h10
        rw [e1, e2, e3] at hN
        intro k1 k2 k3 k4 k5 k6 k7
        have w1 := wn_1 hn k4
        have w2 := wn_2 h3 k1
        have w3 := wn_3 h10 k2
        have w4 := wn_4 hN k3
        obtain ⟨o', N', r1, r2, r3⟩ := hih w1 w2 w3 w4
        have w5 := wn_5 w3 hge2 hge
        have w7 := wn_7 w2 hge2 hge
        have w8 := wn_8 h3 k7 hge
        rw [hlen, hlen2] at w7
        rw [hlen] at w8
        refine ⟨o', N', ⟨hi, Nat.add_le_add_right (Nat.le_trans (Nat.le_add_right _ _) w5) 3, fun w => wn_6 h10 (k6 w).1 (k6 w).2 hge, w5, ?_, w7, w8, ?_, r1⟩, wn_9 k2 r2, wn_10 k3 r3⟩
        · rcases k5 with w | ⟨-, w1, w2⟩
          · clear hih hst hn h3 h10 hN k1 k2 k3 k4 w1 w2 w3 w4 r2 r3
            omega
          · have := wn_6 h10 w1 w2 hge
            exact Nat.lt_of_lt_of_le (Nat.lt_add_of_pos_right (by decide)) this
        · clear hih hst hn h3 h10 hN k1 k2 k3 k4 w1 w2 w3 r2 r3
          omega
      clear hih hge hlen hge2 hlen2 hn h3 h10 hN
      rcases hi with ⟨q, q1⟩ | ⟨q, q1, q2, q3⟩
      · have e : stp E g i N = ([(i.2 : Int)], [], N) := by
          unfold stp
          rw [if_neg (by omega), if_neg (by omega)]
        rw [e] at fin
        refine fin 0 0 0 1 ?_ ?_ ?_ ?_ ?_ ?_ ?_ ?_ ?_ (fun z => by omega) (Nat.le_refl _)
        · unfold ms; rw [if_neg (by omega), if_neg (by omega)]
        · unfold ms; rw [if_neg (by omega), if_neg (by omega)]
        · unfold ms; rw [if_neg (by omega), if_neg (by omega)]
        · unfold ms; rw [if_neg (by omega), if_neg (by omega)]
        · show 3 * 0 + 0 + 0 ≤ 3 * 0 + 1 + 0; decide
        · show 10 * 0 + 0 + 1 + 2 * 0 ≤ 10 * 0 + 1 + 2 * 0; decide
        · show 3 * 0 + 0 + 0 + 4 * N.length ≤ 3 * 0 + 0 + 0 + 4 * N.length; exact Nat.le_refl _
        · show 8 * 0 + 2 * 0 + 0 + 1 ≤ 8 * 0 + 2 * 0 + 1; decide
        · exact Or.inl (Nat.le_refl _)
      · have hp := TL_pos (hD _ q1)
        by_cases w : i.1 = 0
        · have e : i = (0, i.2) := Prod.ext w rfl
          have hq := stp_q0 (N := N) hO (hD _ q1) q2
          rw [← e] at hq
          obtain ⟨a1, a2, a3, a4⟩ := hq
          refine fin (TL E g D i.2).length 1 0 0 ?_ ?_ ?_ ?_ a1 a2 a3 a4 (Or.inr ⟨w, hp, rfl⟩) (fun _ => ⟨hp, rfl⟩) hp
          · unfold ms; rw [if_pos w]; exact Nat.one_mul _
          · unfold ms; rw [if_pos w]; exact congrArg (· + 1) (Nat.zero_mul _)
          · unfold ms; rw [if_pos w]; exact Nat.zero_mul _
          · unfold ms; rw [if_pos w]; exact Nat.zero_mul _
        · have w1 : i.1 = 1 := by omega
          have e : i = (1, i.2) := Prod.ext w1 rfl
          have hq := stp_q1 (N := N) (hD _ q1) (hgg _ q1)
          rw [← e] at hq
          obtain ⟨a1, a2, a3, a4⟩ := hq
          refine fin (TL E g D i.2).length 0 1 0 ?_ ?_ ?_ ?_ a1 a2 a3 a4 ?_ (fun z => absurd z w) hp
          · unfold ms; rw [if_neg w, if_pos w1]; exact Nat.one_mul _
          · unfold ms; rw [if_neg w, if_pos w1]; exact Nat.zero_mul _
          · unfold ms; rw [if_neg w, if_pos w1]; exact congrArg (· + 1) (Nat.zero_mul _)
          · unfold ms; rw [if_neg w, if_pos w1]; exact Nat.zero_mul _
          · refine Or.inl ?_
            unfold stp
            rw [if_neg w, if_pos w1]
            split
            · exact Nat.le_refl _
            · split
              · exact Nat.le_refl _
              · exact Nat.le_refl _
end WR
