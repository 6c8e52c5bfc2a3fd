/-! the pure part: goals and clauses by their tokens; the class's readGoals -/
/-- how many terms stand in a row of symbols -/
def Fr : List Sy → Nat → Prop
  | [], b => b = 0
  | x :: S, b => ∃ b', Fr S b' ∧ x.1.toNat ≤ b' ∧ b + x.1.toNat = b' + 1
/-- a row of a terms -/
def Tms (a : Nat) (S : List Sy) : Prop := ∀ (T : List Sy) (b : Nat), Fr T b → Fr (S ++ T) (b + a)
theorem Tms_nil : Tms 0 [] := fun T b h => h
theorem Tms_app {a b : Nat} {S T : List Sy} (h : Tms a S) (g : Tms b T) : Tms (a + b) (S ++ T) := fun U c hU => by
  have := h _ _ (g U c hU)
  rw [List.append_assoc, show c + (a + b) = c + b + a by omega]
  exact this
theorem Tms_one {x : Sy} {S : List Sy} (h : Tms x.1.toNat S) : Tms 1 (x :: S) := fun T b hT => ⟨b + x.1.toNat, h T b hT, by omega, by omega⟩
/-- a symbol of a term -/
def okT (x : Sy) : Prop := x.1 = -1 ∨ x = (2, 1) ∨ x = (0, 2) ∨ (0 ≤ x.1 ∧ x.2 ≠ 1 ∧ x.2 ≠ 2)
section GRAM
variable {kE : Int → Int} {wE : Int → Nat}
theorem PArg_tms {pt : Int → Int → Bool → List Sy → Prop} (h : ∀ k k' S, pt k k' true S → Tms 1 S) : ∀ (n : Nat) (k k' : Int) (a : Nat) (S : List Sy), PArg kE pt n k k' true a S → Tms a S := by
  intro n
  induction n with
  | zero => intro k k' a S z; exact absurd z id
  | succ n ih =>
    intro k k' a S z
    rcases z with ⟨-, z, -⟩ | ⟨k1, z1, -, rfl, -⟩ | ⟨k1, S1, a', S2, z1, -, z2, rfl, rfl⟩
    · exact absurd z (by decide)
    · exact h _ _ _ z1
    · have := Tms_app (h _ _ _ z1) (ih _ _ _ _ z2)
      rw [Nat.add_comm 1 a'] at this
      exact this
theorem PLst_tms {pt : Int → Int → Bool → List Sy → Prop} (h : ∀ k k' S, pt k k' true S → Tms 1 S) : ∀ (n : Nat) (k k' : Int) (S : List Sy), PLst kE pt n k k' true S → Tms 1 S := by
  intro n
  induction n with
  | zero => intro k k' S z; exact absurd z id
  | succ n ih =>
    intro k k' S z
    have two : ∀ {S1 S2 : List Sy}, Tms 1 S1 → Tms 1 S2 → Tms 1 ((2, 1) :: (S1 ++ S2)) := fun a b => Tms_one (x := (2, 1)) (Tms_app a b)
    rcases z with ⟨S1, -, z, -⟩ | ⟨k1, S1, z1, -, -, rfl, -⟩ | ⟨k1, S1, S2, -, -, -, z, -⟩ | ⟨k1, k2, S1, S2, z1, -, z2, rfl, -⟩ | ⟨k1, S1, S2, z1, -, z2, rfl⟩
    · exact absurd z (by decide)
    · exact two (h _ _ _ z1) (Tms_one (x := (0, 2)) Tms_nil)
    · exact absurd z (by decide)
    · exact two (h _ _ _ z1) (h _ _ _ z2)
    · exact two (h _ _ _ z1) (ih _ _ _ z2)
theorem PT_tms : ∀ (d : Nat) (o k k' : Int) (S : List Sy), PT kE wE d o k k' true S → Tms 1 S := by
  intro d
  induction d with
  | zero => intro o k k' S z; exact absurd z id
  | succ d ih =>
    intro o k k' S z
    rcases z with ⟨-, -, -, rfl⟩ | ⟨-, -, -, -, rfl⟩ | ⟨-, -, -, z, -⟩ | ⟨-, -, -, n, a, S', z, rfl⟩ | ⟨-, -, z, -⟩ | ⟨-, -, -, -, -, rfl⟩ | ⟨-, -, -, n, z⟩ | ⟨-, -, -, z, -⟩
    · exact Tms_one (x := (-1, wE k)) Tms_nil
    · exact Tms_one (x := (0, wE k)) Tms_nil
    · exact absurd z (by decide)
    · exact Tms_one (x := ((a : Int), wE k)) (by rw [show ((a : Int), wE k).1.toNat = a from Int.toNat_natCast a]; exact PArg_tms (ih (o + 1)) n _ _ _ _ z)
    · exact absurd z (by decide)
    · exact Tms_one (x := (0, 2)) Tms_nil
    · exact PLst_tms (ih (o + 1)) n _ _ _ z
    · exact absurd z (by decide)
theorem PArg_ok {pt : Int → Int → Bool → List Sy → Prop} (h : ∀ k k' ok S, 0 ≤ k → pt k k' ok S → k ≤ k' ∧ ∀ x ∈ S, okT x) : ∀ (n : Nat) (k k' : Int) (ok : Bool) (a : Nat) (S : List Sy), 0 ≤ k → PArg kE pt n k k' ok a S → k ≤ k' ∧ ∀ x ∈ S, okT x := by
  intro n
  induction n with
  | zero => intro k k' ok a S _ z; exact absurd z id
  | succ n ih =>
    intro k k' ok a S hk z
    rcases z with ⟨z, -, -⟩ | ⟨k1, z1, -, rfl, z2⟩ | ⟨k1, S1, a', S2, z1, -, z2, rfl, rfl⟩
    · exact h _ _ _ _ hk z
    · have := h _ _ _ _ hk z1
      refine ⟨?_, this.2⟩
      rcases z2 with ⟨-, -, q⟩ | ⟨-, -, q⟩ <;> omega
    · have h1 := h _ _ _ _ hk z1
      have h2 := ih (k1 + 1) _ _ _ _ (by omega) z2
      refine ⟨by omega, fun x hx => ?_⟩
      rcases List.mem_append.mp hx with q | q
      · exact h1.2 x q
      · exact h2.2 x q
theorem PLst_ok {pt : Int → Int → Bool → List Sy → Prop} (h : ∀ k k' ok S, 0 ≤ k → pt k k' ok S → k ≤ k' ∧ ∀ x ∈ S, okT x) : ∀ (n : Nat) (k k' : Int) (ok : Bool) (S : List Sy), 0 ≤ k → PLst kE pt n k k' ok S → k ≤ k' ∧ ∀ x ∈ S, okT x := by
  intro n
  induction n with
  | zero => intro k k' ok S _ z; exact absurd z id
  | succ n ih =>
    intro k k' ok S hk z
    have two : ∀ {S1 S2 : List Sy}, (∀ x ∈ S1, okT x) → (∀ x ∈ S2, okT x) → ∀ x ∈ (2, 1) :: (S1 ++ S2), okT x := fun a b x hx => by
      rcases List.mem_cons.mp hx with q | q
      · exact Or.inr (Or.inl q)
      · rcases List.mem_append.mp q with q | q
        · exact a x q
        · exact b x q
    rcases z with ⟨S1, z, -, rfl⟩ | ⟨k1, S1, z1, -, -, rfl, z2⟩ | ⟨k1, S1, S2, z1, -, z2, -, rfl⟩ | ⟨k1, k2, S1, S2, z1, -, z2, rfl, z3⟩ | ⟨k1, S1, S2, z1, -, z2, rfl⟩
    · have := h _ _ _ _ hk z
      refine ⟨this.1, fun x hx => ?_⟩
      rcases List.mem_cons.mp hx with q | q
      · exact Or.inr (Or.inl q)
      · exact this.2 x q
    · have := h _ _ _ _ hk z1
      refine ⟨?_, two this.2 (fun x hx => Or.inr (Or.inr (Or.inl (List.mem_singleton.mp hx))))⟩
      rcases z2 with ⟨-, -, q⟩ | ⟨-, -, q⟩ <;> omega
    · have h1 := h _ _ _ _ hk z1
      have h2 := h (k1 + 1) _ _ _ (by omega) z2
      exact ⟨by omega, two h1.2 h2.2⟩
    · have h1 := h _ _ _ _ hk z1
      have h2 := h (k1 + 1) _ _ _ (by omega) z2
      refine ⟨?_, two h1.2 h2.2⟩
      rcases z3 with ⟨-, -, q⟩ | ⟨-, -, q⟩ <;> omega
    · have h1 := h _ _ _ _ hk z1
      have h2 := ih (k1 + 1) _ _ _ (by omega) z2
      exact ⟨by omega, two h1.2 h2.2⟩
theorem PT_ok (hw : ∀ x, 0 ≤ x → kE x = 97 → wE x ≠ 1 ∧ wE x ≠ 2) : ∀ (d : Nat) (o k k' : Int) (ok : Bool) (S : List Sy), 0 ≤ k → PT kE wE d o k k' ok S → k ≤ k' ∧ ∀ x ∈ S, okT x := by
  intro d
  induction d with
  | zero => intro o k k' ok S _ z; exact absurd z id
  | succ d ih =>
    intro o k k' ok S hk z
    have nmk : ∀ (a : Nat), kE k = 97 → okT ((a : Int), wE k) := fun a e => Or.inr (Or.inr (Or.inr ⟨by show (0 : Int) ≤ (a : Int); omega, (hw k hk e).1, (hw k hk e).2⟩))
    have one : ∀ {y : Sy}, okT y → ∀ x ∈ [y], okT x := fun h x hx => by rw [List.mem_singleton.mp hx]; exact h
    have no : ∀ x ∈ ([] : List Sy), okT x := fun x hx => absurd hx (List.not_mem_nil)
    rcases z with ⟨-, -, rfl, rfl⟩ | ⟨e, -, -, rfl, rfl⟩ | ⟨e, -, -, -, rfl, rfl⟩ | ⟨e, -, -, n, a, S', z, rfl⟩ | ⟨-, -, -, rfl, rfl⟩ | ⟨-, -, -, -, rfl, rfl⟩ | ⟨-, -, -, n, z⟩ | ⟨-, -, -, -, rfl, rfl⟩
    · exact ⟨by omega, one (Or.inl rfl)⟩
    · exact ⟨by omega, one (nmk 0 e)⟩
    · exact ⟨by omega, one (nmk 0 e)⟩
    · have := PArg_ok (ih (o + 1)) n _ _ _ _ _ (by omega) z
      refine ⟨by omega, fun x hx => ?_⟩
      rcases List.mem_cons.mp hx with q | q
      · rw [q]; exact nmk a e
      · exact this.2 x q
    · exact ⟨by omega, no⟩
    · exact ⟨by omega, one (Or.inr (Or.inr (Or.inl rfl)))⟩
    · have := PLst_ok (ih (o + 1)) n _ _ _ _ (by omega) z
      exact ⟨by omega, this.2⟩
    · exact ⟨by omega, no⟩
/-- a term that begins with a NAME -/
theorem PT_name {d : Nat} {o k k' : Int} {S : List Sy} (h : PT kE wE d o k k' true S) (e : kE k = 97) : ∃ (a : Nat) (T : List Sy), S = ((a : Int), wE k) :: T := by
  cases d with
  | zero => exact absurd h id
  | succ d =>
    rcases h with ⟨z, -⟩ | ⟨-, -, -, -, rfl⟩ | ⟨-, -, -, z, -⟩ | ⟨-, -, -, n, a, S', z, rfl⟩ | ⟨z, -⟩ | ⟨z, -⟩ | ⟨z, -⟩ | ⟨-, z, -⟩
    · omega
    · exact ⟨0, [], rfl⟩
    · exact absurd z (by decide)
    · exact ⟨a, S', rfl⟩
    · omega
    · omega
    · omega
    · exact absurd e z
end GRAM
def PGo (kE : Int → Int) (wE : Int → Nat) : Nat → Int → Int → Bool → List (List Sy) → Prop
  | 0, _, _, _, _ => False
  | n + 1, k, k', ok, G => (kE k = 33 ∧ kE (k + 1) ≠ 44 ∧ ok = true ∧ k' = k + 1 ∧ G = [[(-2, 0)]])
    ∨ (kE k = 33 ∧ kE (k + 1) = 44 ∧ ∃ G2, PGo kE wE n (k + 2) k' ok G2 ∧ G = [(-2, 0)] :: G2)
    ∨ (kE k = 97 ∧ ∃ (k1 : Int) (S1 : List Sy), PT kE wE 16 0 k k1 true S1 ∧ kE k1 ≠ 44 ∧ ok = true ∧ k' = k1 ∧ G = [S1])
    ∨ (kE k = 97 ∧ ∃ (k1 : Int) (S1 : List Sy) (G2 : List (List Sy)), PT kE wE 16 0 k k1 true S1 ∧ kE k1 = 44 ∧ PGo kE wE n (k1 + 1) k' ok G2 ∧ G = S1 :: G2)
    ∨ (kE k = 97 ∧ ∃ S1, PT kE wE 16 0 k k' false S1 ∧ ok = false)
    ∨ (kE k ≠ 33 ∧ kE k ≠ 97 ∧ ok = false ∧ k' = k)
section RGC
variable {tk : Ob} {kE : Int → Int} {wE : Int → Nat} {N : Int} {NL0 : List Nat} {P : List Sy} {symF szF endsF : Int → Int} {pc : Int} {ov q5 qn : Prop}
theorem IC_goal {E : List Sy} {nm rc rd : Ob} {g : Int} (g' : Int) (h : IC NL0 P symF szF endsF pc g ov q5 qn E nm rc rd) : IC NL0 P symF szF endsF pc g' ov q5 qn E nm rc (sI rd 2 g') := by
  obtain ⟨L, NL, VL, rfl, hn, hc, ⟨r1, r2, r3, r4, r5⟩, ho, hxx, h2⟩ := h
  exact ⟨L, NL, VL, rfl, hn, hc, ⟨rfl, r2, r3, r4, r5⟩, ho, hxx, h2⟩
theorem rg_C (hT : TokC tk kE wE N) {K : Int → Ob → Ob → Ob → Prop} :
    ∀ (n : Nat) (x2 k g : Int) (E : List Sy) (nm rc rd : Ob), IC NL0 P symF szF endsF pc g ov q5 qn E nm rc rd → rd.1 3 = 0 → rd.1 4 = k → 0 ≤ k → k ≤ N → 0 ≤ x2 → x2 ≤ k → x2 < 240 → 241 ≤ (n : Int) + x2 → (E.length : Int) ≤ k → 0 ≤ g → g ≤ k →
    (∀ (ok : Bool) (k' : Int) (j : Nat) (G : List (List Sy)) (nm' rc' rd' : Ob), PGo kE wE j k k' ok G → rd'.1 4 = k' → k ≤ k' → (ok = true → IC NL0 P symF szF endsF pc (g + (G.length : Int)) ov q5 qn (E ++ G.flatten) nm' rc' rd' ∧ rd'.1 3 = 0 ∧ k < k' ∧ ((E ++ G.flatten).length : Int) ≤ k' ∧ k' ≤ N ∧ g + (G.length : Int) ≤ k') → (ok = false → ∃ g' E', IC NL0 P symF szF endsF pc g' ov q5 qn E' nm' rc' rd') → K (b2i ok) nm' rc' rd') →
    Rd_readGoals_4 n 1 x2 tk nm rc rd K := by
  intro n
  induction n with
  | zero => intro x2 k g E nm rc rd _ _ _ _ _ _ _ _ h; omega
  | succ n ih =>
    intro x2 k g E nm rc rd hI h3 h4 hk hkN x0 xk x240 hn hEl g0 gk hK
    have hN := hT.2.2.2.1
    have hr2 : rd.1 2 = g := by
      obtain ⟨L, NL, VL, e, hn, hc, ⟨r1, -⟩, -⟩ := hI
      exact r1
    refine ⟨fun z => by omega, fun _ => ⟨fun z => absurd z (by decide), fun _ => ⟨⟨by omega, by omega⟩, ?_⟩⟩⟩
    rw [hr2]
    have hIg := IC_goal (g + 1) hI
    -- behind a goal
    have next : ∀ (k1 : Int) (S1 : List Sy) (nm1 rc1 rd1 : Ob), IC NL0 P symF szF endsF pc (g + 1) ov q5 qn (E ++ S1) nm1 rc1 rd1 → rd1.1 3 = 0 → rd1.1 4 = k1 → k < k1 → k1 ≤ N → ((E ++ S1).length : Int) ≤ k1 →
        (kE k1 ≠ 44 → PGo kE wE 1 k k1 true [S1]) → (∀ j k' ok G2, kE k1 = 44 → PGo kE wE j (k1 + 1) k' ok G2 → PGo kE wE (j + 1) k k' ok (S1 :: G2)) → Rd_readGoals_65 (fun x1 x2 nm' rc' rd' => Rd_readGoals_4 n x1 x2 tk nm' rc' rd' K) x2 tk nm1 rc1 rd1 K := fun k1 S1 nm1 rc1 rd1 hI1 h13 h14 hlt hk1N hl1 fin more => by
      refine sp_accept hT (by decide) (by omega) (fun e44 hlN => ⟨⟨by omega, by omega⟩, ?_⟩) (fun e44 => ⟨⟨by omega, by omega⟩, ?_⟩)
      · rw [h14] at e44 hlN
        refine ih (x2 + 1) (k1 + 1) (g + 1) (E ++ S1) nm1 rc1 _ (IC_rd hI1 (fun j a b => if_neg b) rfl) h13 (by show rd1.1 4 + 1 = k1 + 1; omega) (by omega) (by omega) (by omega) (by omega) (by omega) (by omega) (by omega) (by omega) (by omega) (fun ok k' j G2 nm' rc' rd' hp q1 q2 q3 q4 => ?_)
        refine hK ok k' (j + 1) (S1 :: G2) nm' rc' rd' (more j k' ok G2 e44 hp) q1 (by omega) (fun z => ?_) q4
        obtain ⟨w1, w2, w3, w4, w5, w6⟩ := q3 z
        rw [List.flatten_cons, ← List.append_assoc, List.length_cons]
        rw [show g + ((G2.length + 1 : Nat) : Int) = g + 1 + (G2.length : Int) by omega]
        exact ⟨w1, w2, by omega, w4, w5, w6⟩
      · rw [h14] at e44
        have fin2 : K 1 nm1 rc1 rd1 := by
          refine hK true k1 1 [S1] nm1 rc1 rd1 (fin e44) h14 (by omega) (fun _ => ?_) (fun z => by cases z)
          rw [List.flatten_cons, List.flatten_nil, List.append_nil]
          exact ⟨hI1, h13, hlt, hl1, hk1N, by show g + 1 ≤ k1; omega⟩
        cases n with
        | zero => omega
        | succ n => exact ⟨fun _ => fin2, fun _ => ⟨fun _ => fin2, fun z => absurd rfl z⟩⟩
    refine sp_accept hT (by decide) (by show 0 ≤ rd.1 4; omega) (fun e33 hlN => ⟨fun z => absurd z (by decide), fun _ => ?_⟩) (fun e33 => ⟨fun _ => ?_, fun z => absurd rfl z⟩)
    · have e33 : kE k = 33 := by rw [← h4]; exact e33
      have hlN : k < N := by rw [← h4]; exact hlN
      have hIg2 := IC_rd (rd' := sI (sI rd 2 (g + 1)) 4 ((sI rd 2 (g + 1)).1 4 + 1)) hIg (fun j a b => if_neg b) rfl
      refine IC_plain hIg2 (Or.inr (Or.inr ⟨rfl, rfl⟩)) (fun r rc' hI1 => ?_)
      refine next (k + 1) [(-2, 0)] nm rc' _ hI1 h3 (by show rd.1 4 + 1 = k + 1; omega) (by omega) (by omega) (by rw [List.length_append, List.length_singleton]; omega) (fun e => Or.inl ⟨e33, e, rfl, rfl, rfl⟩) (fun j k' ok G2 e hp => Or.inr (Or.inl ⟨e33, e, G2, by rw [show k + 2 = k + 1 + 1 by omega]; exact hp, rfl⟩))
    · have e33 : kE k ≠ 33 := by rw [← h4]; exact e33
      refine sp_isAt hT (by show 0 ≤ rd.1 4; omega) (fun e97 => ⟨fun z => absurd z (by decide), fun _ => ?_⟩) (fun e97 => ⟨fun _ => ?_, fun z => absurd rfl z⟩)
      · have e97 : kE k = 97 := by rw [← h4]; exact e97
        refine rt_C hT EmC_IC 16 0 k E nm rc _ _ hIg h3 h4 hk (by decide) (by decide) (by decide) hEl (fun ok k1 S1 nm1 rc1 rd1 hp h14 hk1 hok hno => ?_)
        cases ok with
        | false =>
          refine ⟨fun z => absurd rfl z, fun _ => ?_⟩
          refine hK false k1 1 [] nm1 rc1 rd1 (Or.inr (Or.inr (Or.inr (Or.inr (Or.inl ⟨e97, S1, hp, rfl⟩))))) h14 hk1 (fun z => by cases z) (fun z => ?_)
          obtain ⟨E', hE'⟩ := hno z
          exact ⟨_, E', hE'⟩
        | true =>
          obtain ⟨hI1, h13, hlt, hl1, hb1⟩ := hok rfl
          refine ⟨fun _ => ?_, fun z => absurd z (by decide)⟩
          exact next k1 S1 nm1 rc1 rd1 hI1 h13 h14 hlt hb1 hl1 (fun e => Or.inr (Or.inr (Or.inl ⟨e97, k1, S1, hp, e, rfl, rfl, rfl⟩))) (fun j k' ok G2 e hp2 => Or.inr (Or.inr (Or.inr (Or.inl ⟨e97, k1, S1, G2, hp, e, hp2, rfl⟩))))
      · have e97 : kE k ≠ 97 := by rw [← h4]; exact e97
        exact hK false k 1 [] nm rc _ (Or.inr (Or.inr (Or.inr (Or.inr (Or.inr ⟨e33, e97, rfl, rfl⟩))))) h4 (by omega) (fun z => by cases z) (fun _ => ⟨_, _, hIg⟩)
end RGC
