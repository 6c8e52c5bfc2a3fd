/-! the pure part: clauses and questions by their tokens; the class's readers -/
def PCl (kE : Int → Int) (wE : Int → Nat) (k k' : Int) (ok : Bool) (p : Part) : Prop :=
  (kE k ≠ 97 ∧ ok = false ∧ k' = k)
  ∨ (kE k = 97 ∧ ∃ S, PT kE wE 16 0 k k' false S ∧ ok = false)
  ∨ (kE k = 97 ∧ ∃ (k1 : Int) (H : List Sy), PT kE wE 16 0 k k1 true H ∧ kE k1 = 58 ∧ ∃ (n : Nat) (G : List (List Sy)), PGo kE wE n (k1 + 1) k' false G ∧ ok = false)
  ∨ (kE k = 97 ∧ ∃ (k1 k2 : Int) (H : List Sy) (n : Nat) (G : List (List Sy)), PT kE wE 16 0 k k1 true H ∧ kE k1 = 58 ∧ PGo kE wE n (k1 + 1) k2 true G ∧ ((kE k2 = 46 ∧ ok = true ∧ k' = k2 + 1 ∧ p = (H, G)) ∨ (kE k2 ≠ 46 ∧ ok = false ∧ k' = k2)))
  ∨ (kE k = 97 ∧ ∃ (k1 : Int) (H : List Sy), PT kE wE 16 0 k k1 true H ∧ kE k1 ≠ 58 ∧ ((kE k1 = 46 ∧ ok = true ∧ k' = k1 + 1 ∧ p = (H, [])) ∨ (kE k1 ≠ 46 ∧ ok = false ∧ k' = k1)))
def PCs (kE : Int → Int) (wE : Int → Nat) : Nat → Int → Int → Bool → List Part → Prop
  | 0, _, _, _, _ => False
  | n + 1, k, k', ok, Ps => (kE k = 32 ∧ ok = true ∧ k' = k ∧ Ps = [])
    ∨ (kE k ≠ 32 ∧ ∃ p, PCl kE wE k k' false p ∧ ok = false ∧ Ps = [])
    ∨ (kE k ≠ 32 ∧ ∃ (k1 : Int) (p : Part) (Qs : List Part), PCl kE wE k k1 true p ∧ PCs kE wE n k1 k' ok Qs ∧ Ps = p :: Qs)
def PQu (kE : Int → Int) (wE : Int → Nat) (k' : Int) (ok : Bool) (p : Part) : Prop := ∃ n : Nat,
  (∃ G, PGo kE wE n 0 k' false G ∧ ok = false)
  ∨ (∃ (k2 : Int) (G : List (List Sy)), PGo kE wE n 0 k2 true G ∧ ((kE k2 ≠ 46 ∧ ok = false ∧ k' = k2) ∨ (kE k2 = 46 ∧ kE (k2 + 1) ≠ 32 ∧ ok = false ∧ k' = k2 + 1) ∨ (kE k2 = 46 ∧ kE (k2 + 1) = 32 ∧ ok = true ∧ k' = k2 + 1 ∧ p = ([], G))))
section BND
variable {kE : Int → Int} {wE : Int → Nat} {N : Int}
theorem PT_N (hN : ∀ x, 0 ≤ x → kE x ≠ 32 → x < N) : ∀ (d : Nat) (o k k' : Int) (ok : Bool) (S : List Sy), 0 ≤ k → k ≤ N → PT kE wE d o k k' ok S → k ≤ k' ∧ k' ≤ N := by
  have ar : ∀ {pt : Int → Int → Bool → List Sy → Prop}, (∀ k k' ok S, 0 ≤ k → k ≤ N → pt k k' ok S → k ≤ k' ∧ k' ≤ N) → ∀ (n : Nat) (k k' : Int) (ok : Bool) (a : Nat) (S : List Sy), 0 ≤ k → k ≤ N → PArg kE pt n k k' ok a S → k ≤ k' ∧ k' ≤ N := by
    intro pt h n
    induction n with
    | zero => intro k k' ok a S _ _ z; exact absurd z id
    | succ n ih =>
      intro k k' ok a S hk hkN z
      rcases z with ⟨z, -, -⟩ | ⟨k1, z1, -, rfl, z2⟩ | ⟨k1, S1, a', S2, z1, e, z2, rfl, rfl⟩
      · exact h _ _ _ _ hk hkN z
      · have := h _ _ _ _ hk hkN z1
        rcases z2 with ⟨e, -, q⟩ | ⟨-, -, q⟩
        · have := hN k1 (by omega) (by omega); omega
        · omega
      · have h1 := h _ _ _ _ hk hkN z1
        have := hN k1 (by omega) (by omega)
        have h2 := ih (k1 + 1) _ _ _ _ (by omega) (by omega) z2
        omega
  have ls : ∀ {pt : Int → Int → Bool → List Sy → Prop}, (∀ k k' ok S, 0 ≤ k → k ≤ N → pt k k' ok S → k ≤ k' ∧ k' ≤ N) → ∀ (n : Nat) (k k' : Int) (ok : Bool) (S : List Sy), 0 ≤ k → k ≤ N → PLst kE pt n k k' ok S → k ≤ k' ∧ k' ≤ N := by
    intro pt h n
    induction n with
    | zero => intro k k' ok S _ _ z; exact absurd z id
    | succ n ih =>
      intro k k' ok S hk hkN z
      rcases z with ⟨S1, z, -, rfl⟩ | ⟨k1, S1, z1, -, -, rfl, z2⟩ | ⟨k1, S1, S2, z1, e, z2, -, rfl⟩ | ⟨k1, k2, S1, S2, z1, e, z2, rfl, z3⟩ | ⟨k1, S1, S2, z1, e, z2, rfl⟩
      · exact h _ _ _ _ hk hkN z
      · have := h _ _ _ _ hk hkN z1
        rcases z2 with ⟨e, -, q⟩ | ⟨-, -, q⟩
        · have := hN k1 (by omega) (by omega); omega
        · omega
      · have h1 := h _ _ _ _ hk hkN z1
        have := hN k1 (by omega) (by omega)
        have h2 := h (k1 + 1) _ _ _ (by omega) (by omega) z2
        omega
      · have h1 := h _ _ _ _ hk hkN z1
        have := hN k1 (by omega) (by omega)
        have h2 := h (k1 + 1) _ _ _ (by omega) (by omega) z2
        rcases z3 with ⟨e, -, q⟩ | ⟨-, -, q⟩
        · have := hN k2 (by omega) (by omega); omega
        · omega
      · have h1 := h _ _ _ _ hk hkN z1
        have := hN k1 (by omega) (by omega)
        have h2 := ih (k1 + 1) _ _ _ (by omega) (by omega) z2
        omega
  intro d
  induction d with
  | zero => intro o k k' ok S _ _ z; exact absurd z id
  | succ d ih =>
    intro o k k' ok S hk hkN z
    rcases z with ⟨e, -, rfl, rfl⟩ | ⟨e, -, -, rfl, rfl⟩ | ⟨e, -, -, -, rfl, rfl⟩ | ⟨e, e2, -, n, a, S', z, rfl⟩ | ⟨-, -, -, rfl, rfl⟩ | ⟨e, -, e2, -, rfl, rfl⟩ | ⟨e, -, -, n, z⟩ | ⟨-, -, -, -, rfl, rfl⟩
    · have := hN k hk (by omega); omega
    · have := hN k hk (by omega); omega
    · have := hN k hk (by omega); omega
    · have := hN (k + 1) (by omega) (by omega)
      have := ar (ih (o + 1)) n _ _ _ _ _ (by omega) (by omega) z
      omega
    · omega
    · have := hN (k + 1) (by omega) (by omega); omega
    · have := hN k hk (by omega)
      have := ls (ih (o + 1)) n _ _ _ _ (by omega) (by omega) z
      omega
    · omega
theorem PGo_N (hN : ∀ x, 0 ≤ x → kE x ≠ 32 → x < N) : ∀ (n : Nat) (k k' : Int) (ok : Bool) (G : List (List Sy)), 0 ≤ k → k ≤ N → PGo kE wE n k k' ok G → k ≤ k' ∧ k' ≤ N := by
  intro n
  induction n with
  | zero => intro k k' ok G _ _ z; exact absurd z id
  | succ n ih =>
    intro k k' ok G hk hkN z
    rcases z with ⟨e, -, -, rfl, -⟩ | ⟨e, e2, G2, z, -⟩ | ⟨e, k1, S1, z, -, -, rfl, -⟩ | ⟨e, k1, S1, G2, z, e2, z2, -⟩ | ⟨e, S1, z, -⟩ | ⟨-, -, -, rfl⟩
    · have := hN k hk (by omega); omega
    · have := hN (k + 1) (by omega) (by omega)
      have := ih (k + 2) _ _ _ (by omega) (by omega) z
      omega
    · exact PT_N hN _ _ _ _ _ _ hk hkN z
    · have h1 := PT_N hN _ _ _ _ _ _ hk hkN z
      have := hN k1 (by omega) (by omega)
      have := ih (k1 + 1) _ _ _ (by omega) (by omega) z2
      omega
    · exact PT_N hN _ _ _ _ _ _ hk hkN z
    · omega
theorem PGo_sh (hw : ∀ x, 0 ≤ x → kE x = 97 → wE x ≠ 1 ∧ wE x ≠ 2) : ∀ (n : Nat) (k k' : Int) (G : List (List Sy)), 0 ≤ k → PGo kE wE n k k' true G → (∀ S ∈ G, S = [(-2, 0)] ∨ nmT S) ∧ G ≠ [] := by
  have nm : ∀ {k k1 : Int} {S : List Sy}, 0 ≤ k → kE k = 97 → PT kE wE 16 0 k k1 true S → nmT S := fun hk e z => by
    obtain ⟨a, T, q⟩ := PT_name z e
    exact ⟨PT_tms _ _ _ _ _ z, (PT_ok hw _ _ _ _ _ _ hk z).2, a, _, T, q, (hw _ hk e).1, (hw _ hk e).2⟩
  intro n
  induction n with
  | zero => intro k k' G _ z; exact absurd z id
  | succ n ih =>
    intro k k' G hk z
    rcases z with ⟨e, -, -, rfl, rfl⟩ | ⟨e, e2, G2, z, rfl⟩ | ⟨e, k1, S1, z, -, -, rfl, rfl⟩ | ⟨e, k1, S1, G2, z, e2, z2, rfl⟩ | ⟨e, S1, z, q⟩ | ⟨-, -, q, rfl⟩
    · exact ⟨fun S hS => Or.inl (List.mem_singleton.mp hS), by simp⟩
    · refine ⟨fun S hS => ?_, by simp⟩
      rcases List.mem_cons.mp hS with q | q
      · exact Or.inl q
      · exact (ih (k + 2) _ _ (by omega) z).1 S q
    · exact ⟨fun S hS => by rw [List.mem_singleton.mp hS]; exact Or.inr (nm hk e z), by simp⟩
    · refine ⟨fun S hS => ?_, by simp⟩
      rcases List.mem_cons.mp hS with q | q
      · rw [q]; exact Or.inr (nm hk e z)
      · have h1 := (PT_ok hw _ _ _ _ _ _ hk z).1
        exact (ih (k1 + 1) _ _ (by omega) z2).1 S q
    · exact absurd q (by decide)
    · exact absurd q (by decide)
theorem PCl_N (hN : ∀ x, 0 ≤ x → kE x ≠ 32 → x < N) {k k' : Int} {ok : Bool} {p : Part} (hk : 0 ≤ k) (hkN : k ≤ N) (h : PCl kE wE k k' ok p) : k ≤ k' ∧ k' ≤ N := by
  rcases h with ⟨-, -, rfl⟩ | ⟨e, S, z, -⟩ | ⟨e, k1, H, z, e2, n, G, z2, -⟩ | ⟨e, k1, k2, H, n, G, z, e2, z2, z3⟩ | ⟨e, k1, H, z, e2, z3⟩
  · omega
  · exact PT_N hN _ _ _ _ _ _ hk hkN z
  · have h1 := PT_N hN _ _ _ _ _ _ hk hkN z
    have := hN k1 (by omega) (by omega)
    have := PGo_N hN _ _ _ _ _ (by omega) (by omega) z2
    omega
  · have h1 := PT_N hN _ _ _ _ _ _ hk hkN z
    have := hN k1 (by omega) (by omega)
    have := PGo_N hN _ _ _ _ _ (by omega) (by omega) z2
    rcases z3 with ⟨e3, -, rfl, -⟩ | ⟨-, -, rfl⟩
    · have := hN k2 (by omega) (by omega); omega
    · omega
  · have h1 := PT_N hN _ _ _ _ _ _ hk hkN z
    rcases z3 with ⟨e3, -, rfl, -⟩ | ⟨-, -, rfl⟩
    · have := hN k1 (by omega) (by omega); omega
    · omega
theorem PCs_N (hN : ∀ x, 0 ≤ x → kE x ≠ 32 → x < N) : ∀ (n : Nat) (k k' : Int) (ok : Bool) (Ps : List Part), 0 ≤ k → k ≤ N → PCs kE wE n k k' ok Ps → k ≤ k' ∧ k' ≤ N := by
  intro n
  induction n with
  | zero => intro k k' ok G _ _ z; exact absurd z id
  | succ n ih =>
    intro k k' ok Ps hk hkN z
    rcases z with ⟨-, -, rfl, -⟩ | ⟨-, p, z, -, -⟩ | ⟨-, k1, p, Qs, z, z2, -⟩
    · omega
    · exact PCl_N hN hk hkN z
    · have h1 := PCl_N hN hk hkN z
      have := ih k1 _ _ _ (by omega) (by omega) z2
      omega
theorem PQu_N (hN : ∀ x, 0 ≤ x → kE x ≠ 32 → x < N) (h0 : 0 ≤ N) {k' : Int} {ok : Bool} {p : Part} (h : PQu kE wE k' ok p) : 0 ≤ k' ∧ k' ≤ N := by
  obtain ⟨n, ⟨G, z, -⟩ | ⟨k2, G, z, z3⟩⟩ := h
  · exact PGo_N hN _ _ _ _ _ (by omega) h0 z
  · have := PGo_N hN _ _ _ _ _ (by omega) h0 z
    rcases z3 with ⟨-, -, rfl⟩ | ⟨e, -, -, rfl⟩ | ⟨e, -, -, rfl, -⟩
    · exact this
    · have := hN k2 (by omega) (by omega); omega
    · have := hN k2 (by omega) (by omega); omega
end BND
/-- the class's state where the text is wrong -/
def FC (NL0 : List Nat) (nm rc rd : Ob) : Prop := nm.1 0 = (NL0.length : Int) ∧ (nm.1 2 = 0 ∨ nm.1 2 = 1) ∧ (∃ NL t, nmOk nm NL ∧ NL = NL0 ++ t) ∧ (rd.1 5 = 0 ∨ rd.1 5 = 1) ∧ 0 ≤ rc.1 1 ∧ rc.1 1 ≤ 240
theorem IC_FC {NL0 : List Nat} {P : List Sy} {symF szF endsF : Int → Int} {pc g : Int} {ov q5 qn : Prop} {E : List Sy} {nm rc rd : Ob} (h : IC NL0 P symF szF endsF pc g ov q5 qn E nm rc rd) (hp : 0 ≤ pc ∧ pc ≤ 240) : FC NL0 nm rc rd := by
  obtain ⟨L, NL, VL, rfl, ⟨n1, n2, n3, ⟨t, n4⟩, n5, n6⟩, ⟨c1, c2, c3⟩, ⟨r1, r2, r3⟩, -⟩ := h
  exact ⟨n1, n2, ⟨NL, t, n3, n4⟩, r2, by omega, by omega⟩
section RDC
variable {tk : Ob} {kE : Int → Int} {wE : Int → Nat} {N : Int} {NL0 : List Nat}
theorem rcl_C (hT : TokC tk kE wE N) {Ps : List Part} {k : Int} {nm rc rd : Ob} {K : Int → Ob → Ob → Ob → Prop} (h : TC NL0 N Ps k nm rc rd)
    (hK : ∀ (ok : Bool) (k' : Int) (p : Part) (nm' rc' rd' : Ob), PCl kE wE k k' ok p → rd'.1 4 = k' → (ok = true → TC NL0 N (Ps ++ [p]) k' nm' rc' rd' ∧ k < k') → (ok = false → FC NL0 nm' rc' rd') → K (b2i ok) nm' rc' rd') : wp_Rd_readClause tk nm rc rd K := by
  have hN := hT.2.2.2.1
  have hI := TC_start h hN
  have h0 := h
  obtain ⟨NL, s1, s2, s3, s4, s5, s6, s7, s8, s9, s10, s11, s12, s13, s14⟩ := h
  have hpc : (0 : Int) ≤ (Ps.length : Int) ∧ (Ps.length : Int) ≤ 240 := ⟨by omega, by omega⟩
  unfold wp_Rd_readClause wp_Rd_startPart
  refine sp_isAt (rd := rd0 rd) hT (by show 0 ≤ rd.1 4; omega) (fun e97 => ⟨fun z => absurd z (by decide), fun _ => ?_⟩) (fun e97 => ⟨fun _ => ?_, fun z => absurd rfl z⟩)
  · have e97 : kE k = 97 := by rw [← s11]; exact e97
    refine rt_C hT EmC_IC 16 0 k _ nm rc _ _ hI s10 s11 s4 (by decide) (by decide) (by decide) s3 (fun ok k1 H nm1 rc1 rd1 hp h14 hk1 hok hno => ?_)
    cases ok with
    | false =>
      refine ⟨fun z => absurd rfl z, fun _ => ?_⟩
      refine hK false k1 ([], []) nm1 rc1 rd1 (Or.inr (Or.inl ⟨e97, H, hp, rfl⟩)) h14 (fun z => by cases z) (fun z => ?_)
      obtain ⟨E', hE'⟩ := hno z
      exact IC_FC hE' hpc
    | true =>
      obtain ⟨hI1, h13, hlt, hl1, hb1⟩ := hok rfl
      have hnm : nmT H := by
        obtain ⟨a, T, q⟩ := PT_name hp e97
        exact ⟨PT_tms _ _ _ _ _ hp, (PT_ok hT.2.2.2.2 _ _ _ _ _ _ s4 hp).2, a, _, T, q, (hT.2.2.2.2 _ s4 e97).1, (hT.2.2.2.2 _ s4 e97).2⟩
      refine ⟨fun _ => ?_, fun z => absurd z (by decide)⟩
      refine sp_accept hT (by decide) (by omega) (fun e58 hlN => ⟨fun z => absurd z (by decide), fun _ => ⟨242, ?_⟩⟩) (fun e58 => ⟨fun _ => ?_, fun z => absurd rfl z⟩)
      · rw [h14] at e58 hlN
        refine rg_C hT 242 0 (k1 + 1) 0 _ nm1 rc1 _ (IC_rd hI1 (fun j a b => if_neg b) rfl) h13 (by show rd1.1 4 + 1 = k1 + 1; omega) (by omega) (by omega) (by omega) (by omega) (by decide) (by decide) (by omega) (by decide) (by omega) (fun ok k2 n G nm2 rc2 rd2 hg h24 hk2 hok2 hno2 => ?_)
        cases ok with
        | false =>
          refine ⟨fun z => absurd rfl z, fun _ => ?_⟩
          refine hK false k2 ([], []) nm2 rc2 rd2 (Or.inr (Or.inr (Or.inl ⟨e97, k1, H, hp, e58, n, G, hg, rfl⟩))) h24 (fun z => by cases z) (fun z => ?_)
          obtain ⟨g', E', hE'⟩ := hno2 z
          exact IC_FC hE' hpc
        | true =>
          obtain ⟨hI2, h23, hlt2, hl2, hb2, hg2⟩ := hok2 rfl
          refine ⟨fun _ => ?_, fun z => absurd z (by decide)⟩
          have hsh : PSh (H, G) := ⟨Or.inr hnm, (PGo_sh hT.2.2.2.2 _ _ _ _ (by omega) hg).1⟩
          have eE : psL Ps ++ H ++ G.flatten = psL Ps ++ pL (H, G) := by rw [List.append_assoc]; rfl
          rw [eE, Int.zero_add] at hI2
          rw [eE] at hl2
          refine ep_C hT (p := (H, G)) h0 hI2 h23 h24 (by omega) hb2 (by omega) hl2 hsh (fun e46 rc' rd' hTC e0 e5 => ⟨Or.inr rfl, ?_⟩) (fun e46 => ⟨Or.inl rfl, ?_⟩)
          · have hTC' := hTC
            obtain ⟨_, -, -, -, -, -, -, -, -, -, -, q11, -⟩ := hTC
            exact hK true (k2 + 1) (H, G) nm2 rc' rd' (Or.inr (Or.inr (Or.inr (Or.inl ⟨e97, k1, k2, H, n, G, hp, e58, hg, Or.inl ⟨e46, rfl, rfl, rfl⟩⟩)))) q11 (fun _ => ⟨hTC', by omega⟩) (fun z => by cases z)
          · exact hK false k2 ([], []) nm2 rc2 rd2 (Or.inr (Or.inr (Or.inr (Or.inl ⟨e97, k1, k2, H, n, G, hp, e58, hg, Or.inr ⟨e46, rfl, rfl⟩⟩)))) h24 (fun z => by cases z) (fun _ => IC_FC hI2 hpc)
      · rw [h14] at e58
        have hsh : PSh (H, []) := ⟨Or.inr hnm, fun G hG => absurd hG (List.not_mem_nil)⟩
        have eE : psL Ps ++ H = psL Ps ++ pL (H, []) := by show _ = psL Ps ++ (H ++ [].flatten); rw [List.flatten_nil, List.append_nil]
        rw [eE] at hI1 hl1
        refine ep_C hT (p := (H, [])) h0 hI1 h13 h14 (by omega) hb1 hlt hl1 hsh (fun e46 rc' rd' hTC e0 e5 => ⟨Or.inr rfl, ?_⟩) (fun e46 => ⟨Or.inl rfl, ?_⟩)
        · have hTC' := hTC
          obtain ⟨_, -, -, -, -, -, -, -, -, -, -, q11, -⟩ := hTC
          exact hK true (k1 + 1) (H, []) nm1 rc' rd' (Or.inr (Or.inr (Or.inr (Or.inr ⟨e97, k1, H, hp, e58, Or.inl ⟨e46, rfl, rfl, rfl⟩⟩)))) q11 (fun _ => ⟨hTC', by omega⟩) (fun z => by cases z)
        · exact hK false k1 ([], []) nm1 rc1 rd1 (Or.inr (Or.inr (Or.inr (Or.inr ⟨e97, k1, H, hp, e58, Or.inr ⟨e46, rfl, rfl⟩⟩)))) h14 (fun z => by cases z) (fun _ => IC_FC hI1 hpc)
  · have e97 : kE k ≠ 97 := by rw [← s11]; exact e97
    exact hK false k ([], []) nm rc _ (Or.inl ⟨e97, rfl, rfl⟩) s11 (fun z => by cases z) (fun _ => IC_FC hI hpc)
theorem rcs_C (hT : TokC tk kE wE N) {x2 : Int} {tx : Ob} {K : Int → Ob → Ob → Ob → Ob → Prop} : ∀ (n : Nat) (x4 k : Int) (Ps : List Part) (nm rc rd : Ob), TC NL0 N Ps k nm rc rd → 0 ≤ x4 → x4 ≤ k → 242 ≤ (n : Int) + x4 →
    (∀ (ok : Bool) (k' : Int) (j : Nat) (Qs : List Part) (nm' rc' rd' : Ob), PCs kE wE j k k' ok Qs → rd'.1 4 = k' → (ok = true → TC NL0 N (Ps ++ Qs) k' nm' rc' rd') → (ok = false → FC NL0 nm' rc' rd') → Rd_readClauses_42 x2 (b2i ok) tx tk nm' rc' rd' K) → Rd_readClauses_10 n x2 1 x4 tx tk nm rc rd K := by
  have hN := hT.2.2.2.1
  intro n
  induction n with
  | zero =>
    intro x4 k Ps nm rc rd h
    obtain ⟨NL, s1, s2, s3, s4, s5, -⟩ := h
    intro _ _ _
    omega
  | succ n ih =>
    intro x4 k Ps nm rc rd h x0 xk hn hK
    have h0 := h
    obtain ⟨NL, s1, s2, s3, s4, s5, s6, s7, s8, s9, s10, s11, -⟩ := h
    have stop : kE k = 32 → Rd_readClauses_42 x2 1 tx tk nm rc rd K := fun e => hK true k 1 [] nm rc rd (Or.inl ⟨e, rfl, rfl, rfl⟩) s11 (fun _ => by rw [List.append_nil]; exact h0) (fun z => by cases z)
    refine ⟨fun z => stop ?_, fun z => ⟨fun z2 => absurd z2 (by decide), fun _ => ?_⟩⟩
    · by_cases e : kE k = 32
      · exact e
      · have := hT.2.2.1 k s4 e; omega
    · refine sp_isAt hT (by omega) (fun e => ⟨fun _ => stop (by rw [← s11]; exact e), fun z2 => absurd z2 (by decide)⟩) (fun e => ⟨fun z2 => absurd rfl z2, fun _ => ?_⟩)
      have e : kE k ≠ 32 := by rw [← s11]; exact e
      refine rcl_C hT h0 (fun ok k1 p nm1 rc1 rd1 hp h14 hok hno => ⟨⟨by omega, by omega⟩, ?_⟩)
      cases ok with
      | false =>
        have fin := hK false k1 1 [] nm1 rc1 rd1 (Or.inr (Or.inl ⟨e, p, hp, rfl, rfl⟩)) h14 (fun z => by cases z) hno
        cases n with
        | zero => omega
        | succ n => exact ⟨fun _ => fin, fun _ => ⟨fun _ => fin, fun z => absurd rfl z⟩⟩
      | true =>
        obtain ⟨hTC, hlt⟩ := hok rfl
        refine ih (x4 + 1) k1 (Ps ++ [p]) nm1 rc1 rd1 hTC (by omega) (by omega) (by omega) (fun ok k' j Qs nm' rc' rd' hq q1 q2 q3 => ?_)
        refine hK ok k' (j + 1) (p :: Qs) nm' rc' rd' (Or.inr (Or.inr ⟨e, k1, p, Qs, hp, hq, rfl⟩)) q1 (fun z => ?_) q3
        have := q2 z
        rw [List.append_assoc] at this
        exact this
end RDC
