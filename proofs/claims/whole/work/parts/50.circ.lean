/-! the search: the class looks for circles -/
def pa (E : List Sy) (c : Nat) : Nat → List Int → List Int
  | 0, l => l
  | k + 1, l => (ch E c k : Int) :: pa E c k l
theorem pa_len (E : List Sy) (c : Nat) : ∀ (k : Nat) (l : List Int), (pa E c k l).length = l.length + k
  | 0, l => rfl
  | k + 1, l => by
    show (pa E c k l).length + 1 = _
    rw [pa_len E c k l]; omega
theorem pa_mem {E : List Sy} {c : Nat} {i : Int} : ∀ {k : Nat} {l : List Int}, i ∈ pa E c k l ↔ i ∈ l ∨ ∃ j, j < k ∧ i = (ch E c j : Int)
  | 0, l => ⟨Or.inl, fun h => h.resolve_right (fun z => by obtain ⟨j, hj, -⟩ := z; omega)⟩
  | k + 1, l => by
    show i ∈ (ch E c k : Int) :: pa E c k l ↔ _
    rw [List.mem_cons, pa_mem (k := k)]
    constructor
    · rintro (h | h | ⟨j, hj, h⟩)
      · exact Or.inr ⟨k, by omega, h⟩
      · exact Or.inl h
      · exact Or.inr ⟨j, by omega, h⟩
    · rintro (h | ⟨j, hj, h⟩)
      · exact Or.inr (Or.inl h)
      · by_cases e : j = k
        · subst e; exact Or.inl h
        · exact Or.inr (Or.inr ⟨j, by omega, h⟩)
theorem sp_args {NL : List Nat} {E : List Sy} (hW : WE E) (hO : OkE NL E) {te : Ob} {a : Nat} {l : List Int} {K : Ob → Prop} (hC : CW NL E te) (ha : a < E.length) (h2 : te.1 2 = (l.length : Int)) (hS : Stk (te.2.1 5) l) (hl : l.length + nA E a ≤ 512) (hK : ∀ te', teG te te' → te'.1 2 = ((pa E a (nA E a) l).length : Int) → Stk (te'.2.1 5) (pa E a (nA E a) l) → K te') : wp_Ter_pushArguments (a : Int) te K := by
  have hE := hC.2.1
  have h4 := (hO a ha).2.1
  have n4 : nA E a ≤ 4 := by unfold nA; omega
  have loop : ∀ (n k : Nat) (te' : Ob), k ≤ nA E a → nA E a < n + k → teG te te' → te'.1 2 = ((pa E a k l).length : Int) → Stk (te'.2.1 5) (pa E a k l) → Ter_pushArguments_16 n (nA E a : Int) (ch E a k : Int) (k : Int) te' K := by
    intro n
    induction n with
    | zero => intro k te' k1 k2; omega
    | succ n ih =>
      intro k te' k1 k2 hG e2 hS'
      refine ⟨fun z => ?_, fun z => ?_⟩
      · have : k = nA E a := by omega
        subst this
        exact hK te' hG e2 hS'
      · have hk : k < nA E a := by omega
        have la := ch_lt hW ha hk
        have hlen := pa_len E a k l
        refine sp_push e2 hS' (by omega) (fun p1 p2 => ?_)
        have ca := (hC.2.2 (ch E a k) la).2
        have ta := tsz_le hW la
        have ea : te'.2.1 1 (ch E a k : Int) = (tsz E (ch E a k) : Int) := by rw [hG.1.2.2.2.1]; exact ca
        have hG2 := teG_trans hG (teG_push te' (te'.1 2) (ch E a k : Int) (te'.1 2 + 1))
        have key := ih (k + 1) _ (by omega) (by omega) hG2 (by rw [p1]; rfl) p2
        refine sp_sizT (CW_ix (CW_teF hC hG2.1) la) ⟨?_, ⟨by omega, by omega⟩, ?_⟩
        · show R32 ((ch E a k : Int) + te'.2.1 1 (ch E a k : Int))
          rw [ea]; exact ⟨by omega, by omega⟩
        · show Ter_pushArguments_16 n (nA E a : Int) ((ch E a k : Int) + te'.2.1 1 (ch E a k : Int)) ((k : Int) + 1) _ K
          rw [ea]
          rw [ch_succ] at key
          exact key
  refine sp_symT (CW_ix hC ha) ?_
  rw [(hC.2.2 a ha).1]
  refine sp_argumentsOf ?_
  rw [cs_ar (hO a ha).1 h4]
  refine ⟨⟨by omega, by omega⟩, nA E a + 1, ?_⟩
  have := loop (nA E a + 1) 0 te (Nat.zero_le _) (by omega) ⟨teF_refl te, rfl, rfl, rfl⟩ h2 hS
  rw [ch_0] at this
  exact this
/-- cells in the order in which they were closed, the last one first -/
def COrd (E : List Sy) (rp : Nat → Nat) : List Nat → Prop
  | [] => True
  | c :: l => (∀ k, k < nA E c → rp (ch E c k) ∈ l) ∧ COrd E rp l
def MU : List Int → Prop
  | [] => True
  | i :: l => (i < 0 → i ∉ l) ∧ MU l
/-- an argument that is done, or waits, or is open -/
def Cv (rp : Nat → Nat) (ord : List Nat) (ab : List Int) (y : Nat) : Prop := rp y ∈ ord ∨ (y : Int) ∈ ab ∨ (-1 - (rp y : Int)) ∈ ab
def MC (E : List Sy) (rp : Nat → Nat) (ord : List Nat) : List Int → List Int → Prop
  | _, [] => True
  | ab, i :: l => (∀ c : Nat, i = -1 - (c : Int) → ∀ k, k < nA E c → Cv rp ord ab (ch E c k)) ∧ MC E rp ord (i :: ab) l
theorem MC_mono {E : List Sy} {rp : Nat → Nat} {ord ord' : List Nat} : ∀ {l ab ab' : List Int}, (∀ y, Cv rp ord ab y → Cv rp ord' ab' y) → MC E rp ord ab l → MC E rp ord' ab' l
  | [], _, _, _, _ => trivial
  | i :: l, ab, ab', h, hm => by
    refine ⟨fun c hc k hk => h _ (hm.1 c hc k hk), MC_mono (fun y hy => ?_) hm.2⟩
    have up : ∀ {z : Nat}, Cv rp ord' ab' z → Cv rp ord' (i :: ab') z := fun q => by
      rcases q with q | q | q
      · exact Or.inl q
      · exact Or.inr (Or.inl (List.mem_cons_of_mem _ q))
      · exact Or.inr (Or.inr (List.mem_cons_of_mem _ q))
    rcases hy with q | q | q
    · exact up (h y (Or.inl q))
    · rcases List.mem_cons.mp q with e | e
      · exact Or.inr (Or.inl (by rw [e]; exact List.mem_cons_self))
      · exact up (h y (Or.inr (Or.inl e)))
    · rcases List.mem_cons.mp q with e | e
      · exact Or.inr (Or.inr (by rw [e]; exact List.mem_cons_self))
      · exact up (h y (Or.inr (Or.inr e)))
theorem MC_pa {E : List Sy} {rp : Nat → Nat} {ord : List Nat} {a : Nat} : ∀ {k : Nat} {l ab : List Int}, (∀ ab', (∀ i ∈ ab, i ∈ ab') → (∀ j, j < k → (ch E a j : Int) ∈ ab') → MC E rp ord ab' l) → MC E rp ord ab (pa E a k l)
  | 0, l, ab, h => h ab (fun _ q => q) (fun j hj => absurd hj (Nat.not_lt_zero _))
  | k + 1, l, ab, h => by
    refine ⟨fun c hc => by omega, MC_pa (fun ab' h1 h2 => h ab' (fun i hi => h1 i (List.mem_cons_of_mem _ hi)) (fun j hj => ?_))⟩
    by_cases e : j = k
    · subst e; exact h1 _ List.mem_cons_self
    · exact h2 j (by omega)
def vl (i : Int) : Nat := if 0 ≤ i then i.toNat else (-1 - i).toNat
theorem vl_n (x : Nat) : vl (x : Int) = x := by unfold vl; rw [if_pos (by omega)]; omega
theorem vl_m (c : Nat) : vl (-1 - (c : Int)) = c := by unfold vl; rw [if_neg (by omega)]; omega
/-- what lies above an open cell lies deeper -/
def Sd (ρ : Nat → Nat) : List Int → Prop
  | [] => True
  | i :: l => (∀ c : Nat, (-1 - (c : Int)) ∈ l → ρ (vl i) < ρ c) ∧ Sd ρ l
theorem Sd_pa {E : List Sy} {ρ : Nat → Nat} {a : Nat} {l : List Int} (hl : Sd ρ l) : ∀ {k : Nat}, (∀ j, j < k → ∀ c : Nat, (-1 - (c : Int)) ∈ l → ρ (ch E a j) < ρ c) → Sd ρ (pa E a k l)
  | 0, _ => hl
  | k + 1, h => by
    refine ⟨fun c hc => ?_, Sd_pa hl (fun j hj => h j (by omega))⟩
    rw [vl_n]
    refine h k (by omega) c ?_
    rcases pa_mem.mp hc with q | ⟨j, -, q⟩
    · exact q
    · omega
theorem MU_pa {E : List Sy} {a : Nat} {l : List Int} (hl : MU l) : ∀ {k : Nat}, MU (pa E a k l)
  | 0 => hl
  | k + 1 => ⟨fun z => by omega, MU_pa hl⟩
/-- a rank for the cells -/
def Rk (E : List Sy) (rp ρ : Nat → Nat) : Prop := (∀ x y, x < E.length → y < E.length → rp x = rp y → ρ x = ρ y) ∧ ∀ x, x < E.length → ∀ k, k < nA E x → ρ (ch E x k) < ρ x
def PM (E : List Sy) (mk : Int → Int) (op cl : Int) (F : List Nat) : Nat := (F.map (fun c : Nat => if mk (c : Int) = op ∨ mk (c : Int) = cl then 0 else 1 + nA E c)).sum
theorem PM_le {E : List Sy} {mk : Int → Int} {op cl v : Int} {r : Nat} (hv : v = op ∨ v = cl) : ∀ F : List Nat, PM E (updI mk (r : Int) v) op cl F ≤ PM E mk op cl F ∧ (r ∈ F → mk (r : Int) ≠ op → mk (r : Int) ≠ cl → PM E (updI mk (r : Int) v) op cl F + (1 + nA E r) ≤ PM E mk op cl F)
  | [] => ⟨Nat.le_refl _, fun h => absurd h (List.not_mem_nil)⟩
  | c :: F => by
    have ih := PM_le (E := E) (mk := mk) (r := r) hv F
    have e1 : PM E (updI mk (r : Int) v) op cl (c :: F) = (if updI mk (r : Int) v (c : Int) = op ∨ updI mk (r : Int) v (c : Int) = cl then 0 else 1 + nA E c) + PM E (updI mk (r : Int) v) op cl F := by unfold PM; rw [List.map_cons, List.sum_cons]
    have e2 : PM E mk op cl (c :: F) = (if mk (c : Int) = op ∨ mk (c : Int) = cl then 0 else 1 + nA E c) + PM E mk op cl F := by unfold PM; rw [List.map_cons, List.sum_cons]
    rw [e1, e2]
    by_cases q : c = r
    · subst q
      have z : updI mk (c : Int) v (c : Int) = v := if_pos rfl
      rw [z, if_pos hv]
      refine ⟨by omega, fun _ h1 h2 => ?_⟩
      rw [if_neg (fun w => w.elim h1 h2)]
      omega
    · have z : updI mk (r : Int) v (c : Int) = mk (c : Int) := if_neg (by omega)
      rw [z]
      refine ⟨by omega, fun hm h1 h2 => ?_⟩
      have := ih.2 ((List.mem_cons.mp hm).resolve_left (fun e => q e.symm)) h1 h2
      omega
def CirI (E : List Sy) (rp : Nat → Nat) (F : List Nat) (mk : Int → Int) (op cl : Int) (l : List Int) (ord : List Nat) (root : Nat) : Prop :=
  (∀ i ∈ l, (0 ≤ i ∧ i.toNat < E.length ∧ rp i.toNat ∈ F) ∨ ∃ c : Nat, i = -1 - (c : Int) ∧ c < E.length ∧ rp c = c ∧ mk (c : Int) = op)
  ∧ MU l ∧ (∀ c : Nat, c < E.length → mk (c : Int) = op → (-1 - (c : Int)) ∈ l) ∧ (∀ c : Nat, c < E.length → (mk (c : Int) = cl ↔ c ∈ ord)) ∧ (∀ c ∈ ord, c < E.length ∧ rp c = c) ∧ ord.Nodup ∧ COrd E rp ord ∧ MC E rp ord [] l ∧ (∀ ρ, Rk E rp ρ → Sd ρ l) ∧ (rp root ∈ ord ∨ (root : Int) ∈ l ∨ (-1 - (rp root : Int)) ∈ l)
def ciF (te te' : Ob) : Prop := te'.1 0 = te.1 0 ∧ te'.1 1 = te.1 1 ∧ te'.1 3 = te.1 3 ∧ te'.2.1 0 = te.2.1 0 ∧ te'.2.1 1 = te.2.1 1 ∧ te'.2.1 2 = te.2.1 2 ∧ te'.2.1 4 = te.2.1 4 ∧ te'.2.1 6 = te.2.1 6
theorem ciF_trans {a b c : Ob} (h : ciF a b) (g : ciF b c) : ciF a c := ⟨g.1.trans h.1, g.2.1.trans h.2.1, g.2.2.1.trans h.2.2.1, g.2.2.2.1.trans h.2.2.2.1, g.2.2.2.2.1.trans h.2.2.2.2.1, g.2.2.2.2.2.1.trans h.2.2.2.2.2.1, g.2.2.2.2.2.2.1.trans h.2.2.2.2.2.2.1, g.2.2.2.2.2.2.2.trans h.2.2.2.2.2.2.2⟩
theorem ciF_teG {te te' : Ob} (h : teG te te') : ciF te te' := ⟨h.1.1, h.2.1, h.1.2.1, h.1.2.2.1, h.1.2.2.2.1, h.2.2.1, h.2.2.2, h.1.2.2.2.2.2⟩
theorem TeS_ci {NL : List Nat} {E : List Sy} {te te' : Ob} {rp dp : Nat → Nat} {chl : List Nat} (h : TeS NL E te rp dp chl) (g : ciF te te') : TeS NL E te' rp dp chl := by
  obtain ⟨h1, h2, h3⟩ := h
  obtain ⟨g0, g1, g2, g3, g4, g5, g6, g7⟩ := g
  refine ⟨?_, ?_, ?_⟩
  · unfold CW; rw [g0, g3, g4]; exact h1
  · rw [g5]; exact h2
  · rw [g1, g5, g6]; exact h3
theorem circ_loop {NL : List Nat} {E : List Sy} (hW : WE E) (hO : OkE NL E) {F : List Nat} {te0 : Ob} {rp dp : Nat → Nat} {chl : List Nat} {op cl : Int} {root : Nat} {K : Int → Ob → Prop} (hT : TeS NL E te0 rp dp chl) (hFc : FCl E rp F) (hoc : op ≠ cl) (hcl : op ≤ cl)
    (hK1 : (∀ ρ, Rk E rp ρ → False) → ∀ te', ciF te0 te' → (∀ c, 0 ≤ c → c < 2440 → te'.2.1 3 c ≤ cl) → K 1 te')
    (hK0 : ∀ ord : List Nat, rp root ∈ ord → (∀ c ∈ ord, c < E.length ∧ rp c = c) → ord.Nodup → COrd E rp ord → ∀ te', ciF te0 te' → (∀ c, 0 ≤ c → c < 2440 → te'.2.1 3 c ≤ cl) → K 0 te') :
    ∀ (n : Nat) (x4 : Int) (l : List Int) (ord : List Nat) (te : Ob), ciF te0 te → (∀ c, 0 ≤ c → c < 2440 → te.2.1 3 c ≤ cl) → te.1 2 = (l.length : Int) → Stk (te.2.1 5) l → CirI E rp F (te.2.1 3) op cl l ord root → l.length + PM E (te.2.1 3) op cl F ≤ 500 → 0 ≤ x4 → x4 + (l.length : Int) + (PM E (te.2.1 3) op cl F : Int) ≤ 600 → l.length + PM E (te.2.1 3) op cl F < n → Ter_isCircular_32 n op cl x4 te K := by
  intro n
  induction n with
  | zero => intro x4 l ord te _ _ _ _ _ _ _ _ h; omega
  | succ n ih =>
    intro x4 l ord te hF hmk h2 hS hI hC x0 hx4 hn
    obtain ⟨iA, iB, iC, iD, iE, iN, iO, iM, iS, iR⟩ := hI
    refine ⟨fun z => by omega, fun _ => ⟨fun z => ?_, fun z => ?_⟩⟩
    · have hl : l = [] := by
        cases l with
        | nil => rfl
        | cons i l => rw [List.length_cons] at h2; omega
      subst hl
      refine hK0 ord ?_ iE iN iO te hF hmk
      rcases iR with q | q | q
      · exact q
      · exact absurd q (List.not_mem_nil)
      · exact absurd q (List.not_mem_nil)
    · cases l with
      | nil => rw [List.length_nil] at h2; omega
      | cons i l =>
        rw [List.length_cons] at hC hx4 hn
        have hT1 := TeS_ci hT hF
        have hE := hT1.1.2.1
        refine sp_pop h2 hS (by omega) (fun e2 => ?_)
        have hF1 : ciF te0 (sI te 2 (te.1 2 - 1)) := ciF_trans hF (ciF_teG (teG_pop te _))
        have hT2 := TeS_ci hT hF1
        have hS1 : Stk ((sI te 2 (te.1 2 - 1)).2.1 5) l := hS.2
        have hm1 : (sI te 2 (te.1 2 - 1)).2.1 3 = te.2.1 3 := rfl
        generalize sI te 2 (te.1 2 - 1) = te2 at e2 hF1 hT2 hS1 hm1 ⊢
        rw [← hm1] at hmk iA iC iD hC hx4 hn
        refine ⟨fun hi0 => ?_, fun hi0 => ?_⟩
        · -- a cell
          rcases iA i List.mem_cons_self with ⟨-, hlt, hiF⟩ | ⟨c, e, -⟩
          · obtain ⟨x, hx⟩ : ∃ x : Nat, i = (x : Int) := ⟨i.toNat, by omega⟩
            subst hx
            have ex : (x : Int).toNat = x := by omega
            rw [ex] at hlt hiF
            have hr := Fo_r hT2.2.1 hlt
            have ix := CW_ix hT2.1 hr.1
            refine sp_stand hT2.2.1 (TeS_N hT2 hlt) ⟨hT2.1.1, hE⟩ hlt (sp_mkAt ix ⟨fun hno => sp_mkAt ix ⟨fun hc => ⟨⟨by omega, by omega⟩, ?_⟩, fun hnc => sp_mk ix ⟨⟨by omega, by omega⟩, ?_⟩⟩, fun ho => ?_⟩)
            · -- closed already
              have hro : rp x ∈ ord := (iD _ hr.1).mp hc
              refine ih (x4 + 1) l ord te2 hF1 hmk e2 hS1 ⟨fun j hj => iA j (List.mem_cons_of_mem _ hj), iB.2, fun c hc1 hc2 => ?_, iD, iE, iN, iO, MC_mono (fun y hy => ?_) iM.2, fun ρ hρ => (iS ρ hρ).2, ?_⟩ (by omega) (by omega) (by omega) (by omega)
              · rcases List.mem_cons.mp (iC c hc1 hc2) with q | q
                · omega
                · exact q
              · rcases hy with q | q | q
                · exact Or.inl q
                · have : y = x := by have := List.mem_singleton.mp q; omega
                  subst this; exact Or.inl hro
                · have := List.mem_singleton.mp q; omega
              · rcases iR with q | q | q
                · exact Or.inl q
                · rcases List.mem_cons.mp q with w | w
                  · have : root = x := by omega
                    subst this; exact Or.inl hro
                  · exact Or.inr (Or.inl w)
                · rcases List.mem_cons.mp q with w | w
                  · omega
                  · exact Or.inr (Or.inr w)
            · -- opened now
              have hpm := (PM_le (E := E) (mk := te2.2.1 3) (op := op) (cl := cl) (v := op) (r := rp x) (Or.inl rfl) F).2 hiF hno hnc
              have hF3 : ciF te0 (sA te2 3 (rp x : Int) op) := ciF_trans hF1 ⟨rfl, rfl, rfl, rfl, rfl, rfl, rfl, rfl⟩
              refine sp_push (te := sA te2 3 (rp x : Int) op) (l := l) e2 hS1 (by omega) (fun p1 p2 => ?_)
              have hF4 : ciF te0 (sI (sA (sA te2 3 (rp x : Int) op) 5 ((sA te2 3 (rp x : Int) op).1 2) (-1 - (rp x : Int))) 2 ((sA te2 3 (rp x : Int) op).1 2 + 1)) := ciF_trans hF3 (ciF_teG (teG_push _ _ _ _))
              refine sp_args hW hO (TeS_ci hT hF4).1 hr.1 p1 p2 (by rw [List.length_cons]; omega) (fun te5 g1 g2 g3 => ⟨⟨by omega, by omega⟩, ?_⟩)
              have hm5 : te5.2.1 3 = updI (te2.2.1 3) (rp x : Int) op := g1.1.2.2.2.2.1
              have hpl := pa_len E (rp x) (nA E (rp x)) ((-1 - (rp x : Int)) :: l)
              rw [List.length_cons] at hpl
              have up : ∀ c : Nat, c ≠ rp x → updI (te2.2.1 3) (rp x : Int) op (c : Int) = te2.2.1 3 (c : Int) := fun c hc => if_neg (by omega)
              have upr : updI (te2.2.1 3) (rp x : Int) op (rp x : Int) = op := if_pos rfl
              have hnm : (-1 - (rp x : Int)) ∉ l := fun q => by
                rcases iA _ (List.mem_cons_of_mem _ q) with w | ⟨c, e, -, -, w⟩
                · omega
                · have : c = rp x := by omega
                  subst this; exact hno w
              refine ih (x4 + 1) _ ord te5 (ciF_trans hF4 (ciF_teG g1)) (fun c c0 c1 => ?_) g2 g3 ⟨fun j hj => ?_, MU_pa (l := (-1 - (rp x : Int)) :: l) ⟨fun _ => hnm, iB.2⟩, fun c hc1 hc2 => ?_, fun c hc1 => ?_, iE, iN, iO, MC_pa (fun ab' h1 h3 => ⟨fun c hc k hk => ?_, MC_mono (fun y hy => ?_) iM.2⟩), fun ρ hρ => Sd_pa (l := (-1 - (rp x : Int)) :: l) ⟨fun c hc => ?_, (iS ρ hρ).2⟩ (fun j hj c hc => ?_), ?_⟩ (by rw [hm5]; omega) (by omega) (by rw [hm5]; omega) (by rw [hm5]; omega)
              · rw [hm5]
                unfold updI
                split
                · exact hcl
                · exact hmk c c0 c1
              · rcases pa_mem.mp hj with q | ⟨k, hk, q⟩
                · rcases List.mem_cons.mp q with w | w
                  · exact Or.inr ⟨rp x, w, hr.1, hr.2.1, by rw [hm5]; exact upr⟩
                  · rcases iA j (List.mem_cons_of_mem _ w) with v | ⟨c, v1, v2, v4, v5⟩
                    · exact Or.inl v
                    · refine Or.inr ⟨c, v1, v2, v4, ?_⟩
                      rw [hm5]
                      by_cases hcr : c = rp x
                      · subst hcr; exact upr
                      · rw [up c hcr]; exact v5
                · refine Or.inl ?_
                  subst q
                  have ez : (ch E (rp x) k : Int).toNat = ch E (rp x) k := by omega
                  rw [ez]
                  exact ⟨by omega, ch_lt hW hr.1 hk, (hFc _ hiF).2.2 k hk⟩
              · rw [hm5] at hc2
                refine pa_mem.mpr (Or.inl ?_)
                by_cases hcr : c = rp x
                · subst hcr; exact List.mem_cons_self
                · rw [up c hcr] at hc2
                  rcases List.mem_cons.mp (iC c hc1 hc2) with q | q
                  · omega
                  · exact List.mem_cons_of_mem _ q
              · rw [hm5]
                by_cases hcr : c = rp x
                · subst hcr
                  rw [upr]
                  exact ⟨fun q => absurd q hoc, fun q => absurd ((iD _ hc1).mpr q) hnc⟩
                · rw [up c hcr]; exact iD c hc1
              · have : c = rp x := by omega
                subst this
                exact Or.inr (Or.inl (h3 k hk))
              · rcases hy with q | q | q
                · exact Or.inl q
                · have : y = x := by have := List.mem_singleton.mp q; omega
                  subst this
                  exact Or.inr (Or.inr List.mem_cons_self)
                · have := List.mem_singleton.mp q; omega
              · rw [vl_m]
                have := (iS ρ hρ).1 c hc
                rw [vl_n] at this
                rw [hρ.1 (rp x) x hr.1 hlt hr.2.1]
                exact this
              · have h5 := hρ.2 (rp x) hr.1 j hj
                rcases List.mem_cons.mp hc with q | q
                · have : c = rp x := by omega
                  subst this; exact h5
                · have := (iS ρ hρ).1 c q
                  rw [vl_n] at this
                  have e := hρ.1 (rp x) x hr.1 hlt hr.2.1
                  omega
              · rcases iR with q | q | q
                · exact Or.inl q
                · rcases List.mem_cons.mp q with w | w
                  · have : root = x := by omega
                    subst this
                    exact Or.inr (Or.inr (pa_mem.mpr (Or.inl List.mem_cons_self)))
                  · exact Or.inr (Or.inl (pa_mem.mpr (Or.inl (List.mem_cons_of_mem _ w))))
                · rcases List.mem_cons.mp q with w | w
                  · omega
                  · exact Or.inr (Or.inr (pa_mem.mpr (Or.inl (List.mem_cons_of_mem _ w))))
            · -- a circle
              refine hK1 (fun ρ hρ => ?_) te2 hF1 hmk
              have hin : (-1 - (rp x : Int)) ∈ l := by
                rcases List.mem_cons.mp (iC _ hr.1 ho) with q | q
                · omega
                · exact q
              have := (iS ρ hρ).1 (rp x) hin
              rw [vl_n, hρ.1 (rp x) x hr.1 hlt hr.2.1] at this
              omega
          · omega
        · -- the mark of an open cell
          rcases iA i List.mem_cons_self with ⟨w, -⟩ | ⟨c, e, hcl1, hcr, hco⟩
          · exact absurd w hi0
          · subst e
            have ec : -1 - (-1 - (c : Int)) = (c : Int) := by omega
            rw [ec]
            refine ⟨⟨by omega, by omega⟩, sp_mk (CW_ix hT2.1 hcl1) ⟨⟨by omega, by omega⟩, ?_⟩⟩
            have hpm := (PM_le (E := E) (mk := te2.2.1 3) (op := op) (cl := cl) (v := cl) (r := c) (Or.inr rfl) F).1
            have up : ∀ d : Nat, d ≠ c → updI (te2.2.1 3) (c : Int) cl (d : Int) = te2.2.1 3 (d : Int) := fun d hd => if_neg (by omega)
            have upr : updI (te2.2.1 3) (c : Int) cl (c : Int) = cl := if_pos rfl
            have hcn : c ∉ ord := fun q => hoc (hco.symm.trans ((iD c hcl1).mpr q))
            have hnl := iB.1 (by omega)
            refine ih (x4 + 1) l (c :: ord) (sA te2 3 (c : Int) cl) (ciF_trans hF1 ⟨rfl, rfl, rfl, rfl, rfl, rfl, rfl, rfl⟩) (fun d d0 d1 => ?_) e2 hS1 ⟨fun j hj => ?_, iB.2, fun d hd1 hd2 => ?_, fun d hd1 => ?_, fun d hd => ?_, List.nodup_cons.mpr ⟨hcn, iN⟩, ⟨fun k hk => ?_, iO⟩, MC_mono (fun y hy => ?_) iM.2, fun ρ hρ => (iS ρ hρ).2, ?_⟩ (by show l.length + PM E (updI (te2.2.1 3) (c : Int) cl) op cl F ≤ 500; omega) (by omega) (by show x4 + 1 + (l.length : Int) + (PM E (updI (te2.2.1 3) (c : Int) cl) op cl F : Int) ≤ 600; omega) (by show l.length + PM E (updI (te2.2.1 3) (c : Int) cl) op cl F < n; omega)
            · show updI (te2.2.1 3) (c : Int) cl d ≤ cl
              unfold updI
              split
              · exact Int.le_refl _
              · exact hmk d d0 d1
            · rcases iA j (List.mem_cons_of_mem _ hj) with v | ⟨d, v1, v2, v4, v5⟩
              · exact Or.inl v
              · refine Or.inr ⟨d, v1, v2, v4, ?_⟩
                show updI (te2.2.1 3) (c : Int) cl (d : Int) = op
                have hdc : d ≠ c := fun q => hnl (by rw [← q, ← v1]; exact hj)
                rw [up d hdc]; exact v5
            · have hd2 : updI (te2.2.1 3) (c : Int) cl (d : Int) = op := hd2
              have hdc : d ≠ c := fun q => by rw [q, upr] at hd2; exact hoc hd2.symm
              rw [up d hdc] at hd2
              rcases List.mem_cons.mp (iC d hd1 hd2) with q | q
              · omega
              · exact q
            · show updI (te2.2.1 3) (c : Int) cl (d : Int) = cl ↔ _
              by_cases hdc : d = c
              · subst hdc
                rw [upr]
                exact ⟨fun _ => List.mem_cons_self, fun _ => rfl⟩
              · rw [up d hdc, iD d hd1, List.mem_cons]
                exact ⟨Or.inr, fun q => q.resolve_left hdc⟩
            · rcases List.mem_cons.mp hd with q | q
              · rw [q]; exact ⟨hcl1, hcr⟩
              · exact iE d q
            · rcases iM.1 c rfl k hk with q | q | q
              · exact q
              · exact absurd q (List.not_mem_nil)
              · exact absurd q (List.not_mem_nil)
            · rcases hy with q | q | q
              · exact Or.inl (List.mem_cons_of_mem _ q)
              · have := List.mem_singleton.mp q; omega
              · have : rp y = c := by have := List.mem_singleton.mp q; omega
                exact Or.inl (by rw [this]; exact List.mem_cons_self)
            · rcases iR with q | q | q
              · exact Or.inl (List.mem_cons_of_mem _ q)
              · rcases List.mem_cons.mp q with w | w
                · omega
                · exact Or.inr (Or.inl w)
              · rcases List.mem_cons.mp q with w | w
                · have : rp root = c := by omega
                  exact Or.inl (by rw [this]; exact List.mem_cons_self)
                · exact Or.inr (Or.inr w)
