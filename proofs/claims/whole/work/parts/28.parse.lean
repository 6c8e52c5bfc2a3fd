/-! the pure part: what a term is, by the kinds of its tokens; the class's readTerm -/
abbrev Sy : Type := Int × Nat
def PArg (kE : Int → Int) (pt : Int → Int → Bool → List Sy → Prop) : Nat → Int → Int → Bool → Nat → List Sy → Prop
  | 0, _, _, _, _, _ => False
  | n + 1, k, k', ok, a, S => (pt k k' false S ∧ ok = false ∧ a = 0)
    ∨ (∃ k1, pt k k1 true S ∧ kE k1 ≠ 44 ∧ a = 1 ∧ ((kE k1 = 41 ∧ ok = true ∧ k' = k1 + 1) ∨ (kE k1 ≠ 41 ∧ ok = false ∧ k' = k1)))
    ∨ (∃ (k1 : Int) (S1 : List Sy) (a' : Nat) (S2 : List Sy), pt k k1 true S1 ∧ kE k1 = 44 ∧ PArg kE pt n (k1 + 1) k' ok a' S2 ∧ a = a' + 1 ∧ S = S1 ++ S2)
def PLst (kE : Int → Int) (pt : Int → Int → Bool → List Sy → Prop) : Nat → Int → Int → Bool → List Sy → Prop
  | 0, _, _, _, _ => False
  | n + 1, k, k', ok, S => (∃ S1, pt k k' false S1 ∧ ok = false ∧ S = (2, 1) :: S1)
    ∨ (∃ (k1 : Int) (S1 : List Sy), pt k k1 true S1 ∧ kE k1 ≠ 44 ∧ kE k1 ≠ 124 ∧ S = (2, 1) :: (S1 ++ [(0, 2)]) ∧ ((kE k1 = 93 ∧ ok = true ∧ k' = k1 + 1) ∨ (kE k1 ≠ 93 ∧ ok = false ∧ k' = k1)))
    ∨ (∃ (k1 : Int) (S1 S2 : List Sy), pt k k1 true S1 ∧ kE k1 = 124 ∧ pt (k1 + 1) k' false S2 ∧ ok = false ∧ S = (2, 1) :: (S1 ++ S2))
    ∨ (∃ (k1 k2 : Int) (S1 S2 : List Sy), pt k k1 true S1 ∧ kE k1 = 124 ∧ pt (k1 + 1) k2 true S2 ∧ S = (2, 1) :: (S1 ++ S2) ∧ ((kE k2 = 93 ∧ ok = true ∧ k' = k2 + 1) ∨ (kE k2 ≠ 93 ∧ ok = false ∧ k' = k2)))
    ∨ (∃ (k1 : Int) (S1 S2 : List Sy), pt k k1 true S1 ∧ kE k1 = 44 ∧ PLst kE pt n (k1 + 1) k' ok S2 ∧ S = (2, 1) :: (S1 ++ S2))
/-- a term from token k on, with o brackets open: up to token k', right or not, and what it emits -/
def PT (kE : Int → Int) (wE : Int → Nat) : Nat → Int → Int → Int → Bool → List Sy → Prop
  | 0, _, _, _, _, _ => False
  | d + 1, o, k, k', ok, S => (kE k = 65 ∧ ok = true ∧ k' = k + 1 ∧ S = [(-1, wE k)])
    ∨ (kE k = 97 ∧ kE (k + 1) ≠ 40 ∧ ok = true ∧ k' = k + 1 ∧ S = [(0, wE k)])
    ∨ (kE k = 97 ∧ kE (k + 1) = 40 ∧ 15 ≤ o ∧ ok = false ∧ k' = k + 1 ∧ S = [(0, wE k)])
    ∨ (kE k = 97 ∧ kE (k + 1) = 40 ∧ o < 15 ∧ ∃ (n a : Nat) (S' : List Sy), PArg kE (PT kE wE d (o + 1)) n (k + 2) k' ok a S' ∧ S = ((a : Int), wE k) :: S')
    ∨ (kE k = 91 ∧ 15 ≤ o ∧ ok = false ∧ k' = k ∧ S = [])
    ∨ (kE k = 91 ∧ o < 15 ∧ kE (k + 1) = 93 ∧ ok = true ∧ k' = k + 2 ∧ S = [(0, 2)])
    ∨ (kE k = 91 ∧ o < 15 ∧ kE (k + 1) ≠ 93 ∧ ∃ n : Nat, PLst kE (PT kE wE d (o + 1)) n (k + 1) k' ok S)
    ∨ (kE k ≠ 65 ∧ kE k ≠ 97 ∧ kE k ≠ 91 ∧ ok = false ∧ k' = k ∧ S = [])
def b2i (b : Bool) : Int := if b = true then 1 else 0
/-- how the class reads its tokens -/
def TokC (tk : Ob) (kE : Int → Int) (wE : Int → Nat) (N : Int) : Prop := (∀ (x : Int) (K : Int → Prop), 0 ≤ x → K (kE x) → wp_Tok_kindAt x tk K) ∧ (∀ (x : Int) (K : Nat → Prop), 0 ≤ x → x < N → K (wE x) → wp_Tok_wordAt x tk K) ∧ (∀ x, 0 ≤ x → kE x ≠ 32 → x < N) ∧ N ≤ 240 ∧ (∀ x, 0 ≤ x → kE x = 97 → wE x ≠ 1 ∧ wE x ≠ 2)
/-- what the class's state must bear: emissions by the five ways -/
def EmC (Inv : List Sy → Ob → Ob → Ob → Prop) (Pos : List Sy → Nat → Int → Prop) : Prop :=
  (∀ E nm rc rd v, Inv E nm rc rd → Inv E nm rc (sI rd 3 v) ∧ Inv E nm rc (sI rd 4 v))
  ∧ (∀ (E : List Sy) (nm rc rd : Ob) (w : Nat) (Q : Ob → Ob → Prop), Inv E nm rc rd → (E.length : Int) < 240 → (∀ rc' rd', Inv (E ++ [(-1, w)]) nm rc' rd' → rd'.1 3 = rd.1 3 → rd'.1 4 = rd.1 4 → Q rc' rd') → wp_Rd_variableSymbol w rd (fun r rd' => wp_Cod_add_r r rc (fun _ rc' => Q rc' rd')))
  ∧ (∀ (E : List Sy) (nm rc rd : Ob) (w : Nat) (Q : Int → Ob → Ob → Prop), Inv E nm rc rd → (E.length : Int) < 240 → w ≠ 1 → w ≠ 2 → (∀ nm' rc', Inv (E ++ [(0, w)]) nm' rc' rd → ∀ r, Pos E w r → Q r nm' rc') → wp_Nam_symbolOf w nm (fun r nm' => wp_Cod_add_r r rc (fun r2 rc' => Q r2 nm' rc')))
  ∧ (∀ (E : List Sy) (nm rc rd : Ob) (Q : Ob → Prop), Inv E nm rc rd → (E.length : Int) < 240 → (∀ rc', Inv (E ++ [(2, 1)]) nm rc' rd → Q rc') → wp_Cod_add_r 10 rc (fun _ rc' => Q rc'))
  ∧ (∀ (E : List Sy) (nm rc rd : Ob) (Q : Ob → Prop), Inv E nm rc rd → (E.length : Int) ≤ 240 → (∀ rc', Inv (E ++ [(0, 2)]) nm rc' rd → Q rc') → wp_Cod_add_r 0 rc (fun _ rc' => Q rc'))
  ∧ (∀ (E S : List Sy) (nm rc rd : Ob) (w a : Nat) (bb r : Int) (Q : Ob → Prop), Inv (E ++ (0, w) :: S) nm rc rd → Pos E w r → (bb = 0 ∨ bb = 1) → (bb = 1 ↔ 4 < (a : Int)) → (∀ rc', Inv (E ++ ((a : Int), w) :: S) nm rc' (sI rd 5 (orI (rd.1 5) bb)) → Q rc') → wp_Cod_setArguments_r r (min (a : Int) 4) rc Q)
  ∧ (∀ E nm rc rd, Inv E nm rc rd → rd.1 5 = 0 ∨ rd.1 5 = 1)
section RTC
variable {tk : Ob} {kE : Int → Int} {wE : Int → Nat} {N : Int} {Inv : List Sy → Ob → Ob → Ob → Prop} {Pos : List Sy → Nat → Int → Prop}
theorem sp_isAt {x : Int} {rd : Ob} {K : Int → Prop} (hT : TokC tk kE wE N) (hk : 0 ≤ rd.1 4) (h1 : kE (rd.1 4) = x → K 1) (h0 : kE (rd.1 4) ≠ x → K 0) : wp_Rd_isAt x tk rd K := hT.1 _ _ hk ⟨h0, h1⟩
theorem sp_accept {x : Int} {rd : Ob} {K : Int → Ob → Prop} (hT : TokC tk kE wE N) (hx : x ≠ 32) (hk : 0 ≤ rd.1 4) (h1 : kE (rd.1 4) = x → rd.1 4 < N → K 1 (sI rd 4 (rd.1 4 + 1))) (h0 : kE (rd.1 4) ≠ x → K 0 rd) : wp_Rd_accept x tk rd K := by
  refine hT.1 _ _ hk ⟨fun e => ?_, h0⟩
  have := hT.2.2.1 _ hk (by rw [e]; exact hx)
  have := hT.2.2.2.1
  exact ⟨⟨by omega, by omega⟩, h1 e (by omega)⟩
/-- what readTerm must do, at depth d -/
def RTd (tk : Ob) (kE : Int → Int) (wE : Int → Nat) (N : Int) (Inv : List Sy → Ob → Ob → Ob → Prop) (d : Nat) : Prop := ∀ (o k : Int) (E : List Sy) (nm rc rd : Ob) (K : Int → Ob → Ob → Ob → Prop), Inv E nm rc rd → rd.1 3 = o → rd.1 4 = k → 0 ≤ k → 0 ≤ o → o ≤ 15 → 16 ≤ (d : Int) + o → (E.length : Int) ≤ k →
  (∀ (ok : Bool) (k' : Int) (S : List Sy) (nm' rc' rd' : Ob), PT kE wE d o k k' ok S → rd'.1 4 = k' → k ≤ k' → (ok = true → Inv (E ++ S) nm' rc' rd' ∧ rd'.1 3 = o ∧ k < k' ∧ ((E ++ S).length : Int) ≤ k' ∧ k' ≤ N) → (ok = false → ∃ E', Inv E' nm' rc' rd') → K (b2i ok) nm' rc' rd') → wp_Rd_readTerm d tk nm rc rd K
theorem ra_C (hT : TokC tk kE wE N) (hE : EmC Inv Pos) {d : Nat} (hR : RTd tk kE wE N Inv d) {o : Int} (ho : 0 ≤ o ∧ o < 15) (hd : 16 ≤ (d : Int) + (o + 1)) {E : List Sy} {w : Nat} {r : Int} (hr : Pos E w r) {K : Int → Ob → Ob → Ob → Prop} :
    ∀ (n : Nat) (x2 : Nat) (x4 k : Int) (S : List Sy) (nm rc rd : Ob), Inv (E ++ (0, w) :: S) nm rc rd → rd.1 3 = o + 1 → rd.1 4 = k → 0 ≤ k → k ≤ N → 0 ≤ x4 → x4 ≤ k → x4 < 240 → 241 ≤ (n : Int) + x4 → (x2 : Int) ≤ k → ((E ++ (0, w) :: S).length : Int) ≤ k →
    (∀ (ok : Bool) (k' : Int) (j a : Nat) (S2 : List Sy) (nm' rc' rd' : Ob), PArg kE (PT kE wE d (o + 1)) j k k' ok a S2 → rd'.1 4 = k' → k ≤ k' → (ok = true → Inv (E ++ (((x2 + a : Nat) : Int), w) :: (S ++ S2)) nm' rc' rd' ∧ rd'.1 3 = o ∧ k < k' ∧ ((E ++ (((x2 + a : Nat) : Int), w) :: (S ++ S2)).length : Int) ≤ k' ∧ k' ≤ N) → (ok = false → ∃ E', Inv E' nm' rc' rd') → K (b2i ok) nm' rc' rd') →
    Rd_readArguments_16 (fun tk' nm' rc' rd' K => wp_Rd_readTerm d tk' nm' rc' rd' K) n r (x2 : Int) 1 x4 tk nm rc rd K := by
  intro n
  induction n with
  | zero => intro x2 x4 k S nm rc rd _ _ _ _ _ _ _ _ h; omega
  | succ n ih =>
    intro x2 x4 k S nm rc rd hI h3 h4 hk hkN x0 xk x240 hn hx2 hEl hK
    have hN := hT.2.2.2.1
    refine ⟨fun z => by omega, fun _ => ⟨fun z => absurd z (by decide), fun _ => ?_⟩⟩
    refine hR (o + 1) k _ nm rc rd _ hI h3 h4 hk (by omega) (by omega) hd hEl (fun ok k1 S1 nm1 rc1 rd1 hp h14 hk1 hok hno => ?_)
    cases ok with
    | false =>
      refine ⟨fun z => absurd rfl z, fun _ => ?_⟩
      exact hK false k1 1 0 S1 nm1 rc1 rd1 (Or.inl ⟨hp, rfl, rfl⟩) h14 hk1 (fun z => by cases z) hno
    | true =>
      obtain ⟨hI1, h13, hlt, hl1, hb1⟩ := hok rfl
      have hl2 : ((E ++ (0, w) :: (S ++ S1)).length : Int) ≤ k1 := by
        rw [List.append_assoc, List.cons_append] at hl1
        exact hl1
      refine ⟨fun _ => ⟨⟨by omega, by omega⟩, ?_⟩, fun z => absurd z (by decide)⟩
      have hI1' : Inv (E ++ (0, w) :: (S ++ S1)) nm1 rc1 rd1 := by
        have := hI1
        rw [List.append_assoc, List.cons_append] at this
        exact this
      refine sp_accept hT (by decide) (by omega) (fun e44 hlN => ⟨⟨by omega, by omega⟩, ?_⟩) (fun e44 => ⟨⟨by omega, by omega⟩, ?_⟩)
      · -- more arguments
        rw [h14] at e44 hlN
        have hx : ((x2 : Int) + 1) = ((x2 + 1 : Nat) : Int) := by omega
        rw [hx]
        refine ih (x2 + 1) (x4 + 1) (k1 + 1) (S ++ S1) nm1 rc1 _ (hE.1 _ _ _ _ _ hI1').2 h13 (by show rd1.1 4 + 1 = k1 + 1; omega) (by omega) (by omega) (by omega) (by omega) ?_ (by omega) (by omega) (by omega) (fun ok k' j a S2 nm' rc' rd' hp2 q1 q2 q3 q4 => ?_)
        · omega
        · refine hK ok k' (j + 1) (a + 1) (S1 ++ S2) nm' rc' rd' (Or.inr (Or.inr ⟨k1, S1, a, S2, hp, e44, hp2, rfl, rfl⟩)) q1 (by omega) (fun z => ?_) q4
          obtain ⟨g1, g2, g3, g4, g5⟩ := q3 z
          rw [show x2 + 1 + a = x2 + (a + 1) by omega, List.append_assoc] at g1 g4
          exact ⟨g1, g2, by omega, g4, g5⟩
      · -- the last one
        rw [h14] at e44
        have fin : ∀ bb : Int, (bb = 0 ∨ bb = 1) → (bb = 1 ↔ 4 < ((x2 + 1 : Nat) : Int)) → Rd_readArguments_68 (fun tk' nm' rc' rd' K => wp_Rd_readTerm d tk' nm' rc' rd' K) r ((x2 : Int) + 1) bb (rd1.1 5) tk nm1 rc1 rd1 K := fun bb hb hbb => by
          have hm := hE.2.2.2.2.2.2 _ _ _ _ hI1'
          have ho1 := or01 hm hb
          refine ⟨ho1.1, ho1.2.1, ho1.2.2, ?_⟩
          have hx : ((x2 : Int) + 1) = ((x2 + 1 : Nat) : Int) := by omega
          rw [hx]
          refine hE.2.2.2.2.2.1 E (S ++ S1) nm1 rc1 rd1 w (x2 + 1) bb r _ hI1' hr hb hbb (fun rc' hI2 => ⟨⟨by omega, by omega⟩, ?_⟩)
          have hI3 : Inv (E ++ (((x2 + 1 : Nat) : Int), w) :: (S ++ S1)) nm1 rc' (sI (sI rd1 5 (orI (rd1.1 5) bb)) 3 (rd1.1 3 - 1)) := (hE.1 _ _ _ _ _ hI2).1
          refine sp_accept hT (by decide) (by show 0 ≤ rd1.1 4; omega) (fun e hl => ⟨Or.inr rfl, ?_⟩) (fun e => ⟨Or.inl rfl, ?_⟩)
          · have e : kE k1 = 41 := by rw [← h14]; exact e
            refine hK true (k1 + 1) 1 1 S1 nm1 rc' _ (Or.inr (Or.inl ⟨k1, hp, e44, rfl, Or.inl ⟨e, rfl, rfl⟩⟩)) (by show rd1.1 4 + 1 = k1 + 1; omega) (by omega) (fun _ => ⟨(hE.1 _ _ _ _ _ hI3).2, by show rd1.1 3 - 1 = o; omega, by omega, by simp only [List.length_append, List.length_cons] at hl2 ⊢; omega, by have := hT.2.2.1 k1 (by omega) (by rw [e]; decide); omega⟩) (fun z => by cases z)
          · have e : kE k1 ≠ 41 := by rw [← h14]; exact e
            exact hK false k1 1 1 S1 nm1 rc' _ (Or.inr (Or.inl ⟨k1, hp, e44, rfl, Or.inr ⟨e, rfl, rfl⟩⟩)) (by show rd1.1 4 = k1; omega) (by omega) (fun z => by cases z) (fun _ => ⟨_, hI3⟩)
        cases n with
        | zero => omega
        | succ n =>
          have tail : Rd_readArguments_53 (fun tk' nm' rc' rd' K => wp_Rd_readTerm d tk' nm' rc' rd' K) r ((x2 : Int) + 1) tk nm1 rc1 rd1 K := ⟨fun z => fin 0 (Or.inl rfl) (by omega), fun z => fin 1 (Or.inr rfl) (by omega)⟩
          exact ⟨fun _ => tail, fun _ => ⟨fun _ => tail, fun z => absurd rfl z⟩⟩
end RTC
