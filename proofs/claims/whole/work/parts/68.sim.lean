/-! the search: both sides take a clause -/
/-- what both sides share in a search -/
def SCom (NL : List Nat) (Cs : List Part) (Q : Part) (AL : List Nat) (tx : Ob) (b : Int) (E : List Sy) (chl : List Nat) (rp dp : Nat → Nat) (chs : List ChD) (te go ch se m : Ob) : Prop := TeS NL E te rp dp chl ∧ ChOk NL Cs Q E chl (te.2.1 2) go ch m chs ∧ ch.1 0 = (chs.length : Int) ∧ m.1 17 = (chs.length : Int) ∧ Stc NL Cs Q AL tx m ∧ TeM b te ∧ se.1 0 = (AL.length : Int) ∧ (∀ v : Nat, v < AL.length → se.2.1 0 (v : Int) = (AL.getD v 0 : Int)) ∧ se.1 3 = m.1 16 ∧ se.1 4 = m.1 15 ∧ 0 ≤ se.1 4 ∧ se.1 4 ≤ b ∧ 0 ≤ go.1 0 ∧ go.1 0 ≤ 488
/-- a branch that goes on -/
def SLiv (Cs : List Part) (Q : Part) (AL : List Nat) (E : List Sy) (rp : Nat → Nat) (chs : List ChD) (GL : List (Nat × Nat)) (go se m : Ob) : Prop := se.1 2 = 0 ∧ ∃ (s : List (Nat × Nat)) (FL : List Frm) (GLp pre : List (Nat × Nat)), PathOk Cs Q s FL GLp rp ∧ E = fE FL ∧ GLp = pre ++ GL ∧ (∀ q ∈ pre, sG E q.1) ∧ GoC go GL ∧ RefL FL GL rp s m ∧ se.1 3 = (s.length : Int) ∧ s.length ≤ 60 ∧ (∀ d ∈ chs, d.1.length < s.length) ∧ go.1 0 ≤ 8 * ((s.length : Int) + 1) ∧ ∃ D, (∀ x, x < E.length → Dp E rp D x) ∧ tot E rp D AL ≤ 120
def SEnd (go m : Ob) : Prop := ∃ GL, GoC go GL ∧ m.1 18 = (GL.length : Int) ∧ GL.length ≤ 300
def SRes (NL : List Nat) (Cs : List Part) (Q : Part) (AL : List Nat) (tx : Ob) (b : Int) (chs : List ChD) (te go ch se m : Ob) : Prop := ∃ (E : List Sy) (chl : List Nat) (rp dp : Nat → Nat), SCom NL Cs Q AL tx b E chl rp dp chs te go ch se m ∧ ((se.1 2 = 1 ∧ se.1 1 = 2 ∧ m.1 13 = 3) ∨ (∃ GL, SLiv Cs Q AL E rp chs GL go se m ∧ se.1 1 = 2 ∧ m.1 13 = 1) ∨ (se.1 2 = 0 ∧ se.1 1 = 4 ∧ m.1 13 = 4 ∧ m.1 14 = 4 ∧ SEnd go m))
theorem strip_pre {E : List Sy} : ∀ {pre GL : List (Nat × Nat)}, (∀ q ∈ pre, sG E q.1) → stripG E (pre ++ GL) = stripG E GL
  | [], GL, _ => rfl
  | q :: pre, GL, h => by
    rw [List.cons_append, stripG_cut (h q List.mem_cons_self)]
    exact strip_pre (fun r hr => h r (List.mem_cons_of_mem _ hr))
theorem tot_le {E : List Sy} {g : Nat → Nat} {D : Nat} : ∀ {xs : List Nat}, ∀ x ∈ xs, (TL E g D x).length ≤ tot E g D xs
  | [], x, h => absurd h (List.not_mem_nil)
  | y :: xs, x, h => by
    rw [tot_cons]
    rcases List.mem_cons.mp h with e | e
    · rw [e]; omega
    · have := tot_le (E := E) (g := g) (D := D) x e
      omega
theorem tot_len {E : List Sy} {g : Nat → Nat} {D : Nat} : ∀ {xs : List Nat}, (∀ x ∈ xs, 1 ≤ (TL E g D x).length) → xs.length ≤ tot E g D xs
  | [], _ => Nat.le_refl _
  | y :: xs, h => by
    rw [tot_cons, List.length_cons]
    have h1 := h y List.mem_cons_self
    have h2 := tot_len (E := E) (g := g) (D := D) (fun x hx => h x (List.mem_cons_of_mem _ hx))
    omega
/-- the goals of a new frame begin with a cut or a name -/
theorem bd_en {E0 : List Sy} {P : Part} {cut : Nat} (hP : PSh P) : ∀ q ∈ bd E0.length P cut, q.1 < (E0 ++ pL P).length ∧ (en (E0 ++ pL P) q.1 = (-2, 0) ∨ (0 ≤ (en (E0 ++ pL P) q.1).1 ∧ (en (E0 ++ pL P) q.1).2 ≠ 1 ∧ (en (E0 ++ pL P) q.1).2 ≠ 2)) := by
  have key : ∀ (Gs : List (List Sy)) (A : List Sy), pL P = A ++ Gs.flatten → (∀ G ∈ Gs, G = [(-2, 0)] ∨ nmT G) → ∀ q ∈ bdG Gs (E0.length + A.length) cut, q.1 < (E0 ++ pL P).length ∧ (en (E0 ++ pL P) q.1 = (-2, 0) ∨ (0 ≤ (en (E0 ++ pL P) q.1).1 ∧ (en (E0 ++ pL P) q.1).2 ≠ 1 ∧ (en (E0 ++ pL P) q.1).2 ≠ 2)) := by
    intro Gs
    induction Gs with
    | nil => intro A _ _ q hq; exact absurd hq (List.not_mem_nil)
    | cons G Gs ih =>
      intro A hA hG q hq
      rcases List.mem_cons.mp hq with e | e
      · subst e
        show E0.length + A.length < _ ∧ (en (E0 ++ pL P) (E0.length + A.length) = _ ∨ _)
        have hen : en (E0 ++ pL P) (E0.length + A.length) = en (G ++ Gs.flatten) 0 := by
          rw [en_app_r, hA, List.flatten_cons]
          exact en_app_r A (G ++ Gs.flatten) 0
        rw [hen]
        rcases hG G List.mem_cons_self with w | ⟨-, -, a, wd, T, w, w1, w2⟩
        · subst w
          exact ⟨by rw [List.length_append, hA, List.length_append, List.flatten_cons, List.length_append]; show E0.length + A.length < E0.length + (A.length + (1 + Gs.flatten.length)); omega, Or.inl rfl⟩
        · subst w
          exact ⟨by rw [List.length_append, hA, List.length_append, List.flatten_cons, List.length_append, List.length_cons]; omega, Or.inr ⟨by show (0 : Int) ≤ (a : Int); omega, w1, w2⟩⟩
      · refine ih (A ++ G) (by rw [hA, List.flatten_cons, List.append_assoc]) (fun G' hG' => hG G' (List.mem_cons_of_mem _ hG')) q ?_
        rw [List.length_append, ← Nat.add_assoc]
        exact e
  exact key P.2 P.1 rfl hP.2
theorem resolve_sim {NL : List Nat} {Cs : List Part} {Q : Part} {AL : List Nat} {tx : Ob} {b : Int} {FL0 : List Frm} {chl : List Nat} {rp dp : Nat → Nat} {chs : List ChD} {s GLp rest : List (Nat × Nat)} {g k c cut : Nat} {pr te go ch se m : Ob} {Kc : Ob → Ob → Ob → Prop} (hPr : PrOk NL Cs pr) (hne : ∀ p ∈ Cs, p.1 ≠ []) (sT : TeS NL (fE FL0) te rp dp chl) (sS0 : Stc NL Cs Q AL tx m) (sM : TeM b te) (sA0 : se.1 0 = (AL.length : Int)) (sA : ∀ v : Nat, v < AL.length → se.2.1 0 (v : Int) = (AL.getD v 0 : Int)) (s40 : 0 ≤ se.1 4) (s41 : se.1 4 ≤ b) (sg0 : 0 ≤ go.1 0) (sg1 : go.1 0 ≤ 488) (hP : PathOk Cs Q s FL0 GLp rp) (hstr : stripG (fE FL0) GLp = (g, k) :: rest) (hGo : GoC go rest) (hc : c < Cs.length) (h60 : s.length < 60) (h3 : se.1 3 = (s.length : Int)) (h5 : se.1 5 = (g : Int)) (h6 : se.1 6 = (cut : Int)) (h2 : se.1 2 = 0) (h1 : se.1 1 = 2) (hcs : ∀ d ∈ chs, d.1.length ≤ s.length) (hgo8 : go.1 0 ≤ 8 * ((s.length : Int) + 1)) (hb : b ≤ 900000)
    (hK : ∀ te1 go1 se1, (∀ (mm : Ob) (Kr : Ob → Prop), ChOk NL Cs Q (fE FL0) chl (te.2.1 2) go ch mm chs → ch.1 0 = (chs.length : Int) → mm.1 17 = (chs.length : Int) → Stc NL Cs Q AL tx mm → se.1 3 = mm.1 16 → se.1 4 = mm.1 15 → RefL FL0 rest rp s mm → Lo FL0 (mm.2.1 19 (rest.length : Int)) (mm.2.1 20 (rest.length : Int)) g → (∀ m1, SRes NL Cs Q AL tx (b + 2) chs te1 go1 ch se1 m1 → Kr m1) → wp_M_resolve (c : Int) (cut : Int) mm Kr) → Kc te1 go1 se1) : wp_Sea_resolve (c : Int) pr te go se Kc := by
  obtain ⟨f1, f2, ⟨T0, f3⟩, hGood⟩ := Path_fr hP
  have hGood0 := hGood
  obtain ⟨⟨D0, hD0, hGl⟩, gC, gV, gA, gr, g120, gn⟩ := hGood
  have hsub : ∀ l : List (Nat × Nat), ∀ r ∈ stripG (fE FL0) l, r ∈ l := by
    intro l
    induction l with
    | nil => intro r hr; exact hr
    | cons y l ih =>
      intro r hr
      rcases sG_dec (fE FL0) y.1 with w | w
      · rw [stripG_cut w] at hr; exact List.mem_cons_of_mem _ (ih r hr)
      · rw [stripG_id w] at hr; exact hr
  have hmem : ∀ r ∈ (g, k) :: rest, r ∈ GLp := fun r hr => hsub GLp r (by rw [hstr]; exact hr)
  have hst := stripG_le (fE FL0) GLp
  rw [hstr, List.length_cons] at hst
  obtain ⟨hg, hg120⟩ := hGl _ (hmem _ List.mem_cons_self)
  have hg : g < (fE FL0).length := hg
  have hg120 : (TL (fE FL0) rp D0 g).length ≤ 120 := hg120
  have hW := fE_WE (MW_path sS0 hP (by omega))
  have hO := Path_ok sS0 hP
  have hlen := Path_len sS0 hP
  have hcl := sS0.2.2.2.1 _ (Cs_mem hc)
  have hAQ : ∀ x ∈ AL, x < (fE FL0).length := fun x hx => by
    have := (sS0.2.2.2.2.2.2.2.2.2.1 x hx).1
    rw [f3, fE_cons, List.length_append]
    show x < (pL Q).length + _
    omega
  have hA8 := sS0.2.2.2.2.2.2.2.1
  have eE : fE (FL0 ++ [(c, Cs.getD c ([], []))]) = fE FL0 ++ pL (Cs.getD c ([], [])) := fE_snoc FL0 (c, Cs.getD c ([], []))
  -- choices stay good
  have chk : ∀ (m : Ob), ChOk NL Cs Q (fE FL0) chl (te.2.1 2) go ch m chs → ∀ (te1 go1 m1 : Ob) (chl1 : List Nat), TrU (fE FL0).length (te.2.1 2) chl (te1.2.1 2) chl1 → go.1 0 ≤ go1.1 0 → (∀ x, 0 ≤ x → x < go.1 0 → go1.2.1 0 x = go.2.1 0 x ∧ go1.2.1 1 x = go.2.1 1 x ∧ go1.2.1 2 x = go.2.1 2 x) → rmf m m1 → PA (m1.2.1 15) (m1.2.1 16) s → PA (m.2.1 15) (m.2.1 16) s → (∀ y, 0 ≤ y → y < (s.length : Int) → m1.2.1 15 y = m.2.1 15 y ∧ m1.2.1 16 y = m.2.1 16 y) → ChOk NL Cs Q (fE FL0 ++ pL (Cs.getD c ([], []))) chl1 (te1.2.1 2) go1 ch m1 chs := fun m sC te1 go1 m1 chl1 t1 t2 t3 t4 _ _ t6 => ChOk_mono ⟨_, rfl⟩ t1 t2 t3 (fun i _ _ => ⟨fun _ _ => rfl, by rw [t4.2.1 17 (by decide) (by decide) (by decide) (by decide) (by decide) (by decide) (by decide) (by decide)], by rw [t4.2.1 18 (by decide) (by decide) (by decide) (by decide) (by decide) (by decide) (by decide) (by decide)]⟩) (fun d hd y y0 y1 => t6 y y0 (by have := hcs d hd; omega)) sC
  have paeq : ∀ {a15 a16 b15 b16 : Int → Int} {t : List (Nat × Nat)}, PA a15 a16 t → PA b15 b16 t → ∀ y, 0 ≤ y → y < (t.length : Int) → b15 y = a15 y ∧ b16 y = a16 y := by
    intro a15 a16 b15 b16 t
    induction t with
    | nil => intro _ _ y y0 y1; rw [List.length_nil] at y1; omega
    | cons q t ih =>
      intro h g y y0 y1
      rw [List.length_cons] at y1
      by_cases e : y = (t.length : Int)
      · subst e; exact ⟨g.1.trans h.1.symm, g.2.1.trans h.2.1.symm⟩
      · exact ih h.2.2 g.2.2 y y0 (by omega)
  refine sp_resolveC (AL := AL) (cut := cut) (rest := rest) (b := b) hPr hne hc hW hO sT (by omega) ⟨⟨D0, hD0, fun q hq => by rw [List.mem_singleton.mp hq]; exact ⟨hg, hg120⟩⟩, gC, gV, gA, gr, by show 1 ≤ 120; decide, fun q hq => by rw [List.mem_singleton.mp hq]; exact gn (g, k) (hmem (g, k) List.mem_cons_self)⟩ hGo (fun q hq => (hGl q (hmem q (List.mem_cons_of_mem _ hq))).1) (by omega) sM (by omega) h5 h6 ⟨by omega, by omega⟩ ⟨s40, by omega⟩ sA0 hA8 sA hAQ (fun hno te1 rp1 dp1 chl1 t1 t2 t3 => ?_) (fun te1 rp1 dp1 chl1 go1 D t1 t2 t3 t4 t5 t6 t7 t8 t9 t10 => ?_)
  · -- they can't be made equal
    refine hK _ _ _ (fun m Kr sC sn sn' sS s3 s4 hR hL hKr => ?_)
    have hM := MW_path sS hP (by omega)
    have hLA : ∀ v : Nat, v < AL.length → Lo FL0 (m.2.1 14 (v : Int)) 0 (AL.getD v 0) := fun v hv => by
      rw [f3]; exact Lo_first (sS.2.2.2.2.2.2.2.2.1 v hv)
    have hr16 : m.1 16 = (s.length : Int) := by rw [← s3]; exact h3
    have hPA0 := hR.choose_spec.2.2.2
    refine sp_resolveM (AL := AL) (rest := rest) (s := s) hM hR hr16 f2 h60 gC gV gr hg hD0 hg120 (sS.1 c hc) (by have := sS.2.2.1; omega) hcl.1.1 hcl.1.2.1 hcl.2 hL (by omega) ⟨by omega, by omega⟩ sS.2.2.2.2.2.2.1 hA8 hLA (Or.inl ⟨hno, fun m1 r1 r2 r3 r4 r5 => hKr m1 ⟨_, chl1, rp1, dp1, ⟨t1, chk m sC te1 go m1 chl1 t2 (Int.le_refl _) (fun _ _ _ => ⟨rfl, rfl, rfl⟩) r1 r5 hPA0 (paeq hPA0 r5), sn, ?_, Stc_rmf sS r1, t3, sA0, sA, ?_, ?_, ?_, ?_, sg0, sg1⟩, Or.inl ⟨rfl, h1, r2⟩⟩⟩)
    · rw [r1.1 17 (by decide) (by decide) (by decide) (by decide) (by decide) (by decide) (by decide)]; exact sn'
    · show se.1 3 + 1 = m1.1 16; omega
    · show se.1 4 + 1 = m1.1 15; omega
    · show 0 ≤ se.1 4 + 1; omega
    · show se.1 4 + 1 ≤ b + 2; omega
  · -- they are equal now
    have hWE : WE (fE FL0 ++ pL (Cs.getD c ([], []))) := WE_app2 hW (WE_P hcl.1.1)
    have hbd := bd_en (E0 := fE FL0) (cut := cut) hcl.1.1
    have hGl' : ∀ q ∈ bd (fE FL0).length (Cs.getD c ([], [])) cut ++ rest, q.1 < (fE FL0 ++ pL (Cs.getD c ([], []))).length := fun q hq => by
      rcases List.mem_append.mp hq with w | w
      · exact (hbd q w).1
      · rw [List.length_append]; have := (hGl q (hmem q (List.mem_cons_of_mem _ w))).1; omega
    have h8 := (ov_40 hcl.1.2.1).2.2.1
    have com : ∀ (m : Ob), ChOk NL Cs Q (fE FL0) chl (te.2.1 2) go ch m chs → ch.1 0 = (chs.length : Int) → m.1 17 = (chs.length : Int) → Stc NL Cs Q AL tx m → se.1 3 = m.1 16 → se.1 4 = m.1 15 → PA (m.2.1 15) (m.2.1 16) s → ∀ (se1 m1 : Ob), rmf m m1 → m1.1 15 = m.1 15 + 1 → m1.1 16 = m.1 16 + 1 → RefL (FL0 ++ [(c, Cs.getD c ([], []))]) (bd (fE FL0).length (Cs.getD c ([], [])) cut ++ rest) rp1 ((c, cut) :: s) m1 → se1.1 0 = se.1 0 → se1.2 = se.2 → se1.1 3 = se.1 3 + 1 → se1.1 4 = se.1 4 + 1 → SCom NL Cs Q AL tx (b + 2) (fE FL0 ++ pL (Cs.getD c ([], []))) chl1 rp1 dp1 chs te1 go1 ch se1 m1 := fun m sC sn sn' sS s3 s4 hPA0 se1 m1 r1 r2 r3 r4 e0 e2 e3 e4 => by
      have hpa := r4.choose_spec.2.2.2
      refine ⟨t1, chk m sC te1 go1 m1 chl1 t2 (by omega) t10 r1 hpa.2.2 hPA0 (paeq hPA0 hpa.2.2), sn, ?_, Stc_rmf sS r1, t3, by rw [e0]; exact sA0, fun v hv => by rw [e2]; exact sA v hv, by omega, by omega, by omega, by omega, by omega, by omega⟩
      rw [r1.1 17 (by decide) (by decide) (by decide) (by decide) (by decide) (by decide) (by decide)]; exact sn'
    refine ⟨fun hsm => hK _ _ _ (fun m Kr sC sn sn' sS s3 s4 hR hL hKr => ?_), fun hbig => hK _ _ _ (fun m Kr sC sn sn' sS s3 s4 hR hL hKr => ?_)⟩
    · have hM := MW_path sS hP (by omega)
      have hLA : ∀ v : Nat, v < AL.length → Lo FL0 (m.2.1 14 (v : Int)) 0 (AL.getD v 0) := fun v hv => by
        rw [f3]; exact Lo_first (sS.2.2.2.2.2.2.2.2.1 v hv)
      have hr16 : m.1 16 = (s.length : Int) := by rw [← s3]; exact h3
      have hPA0 := hR.choose_spec.2.2.2
      refine sp_resolveM (AL := AL) (rest := rest) (s := s) hM hR hr16 f2 h60 gC gV gr hg hD0 hg120 (sS.1 c hc) (by have := sS.2.2.1; omega) hcl.1.1 hcl.1.2.1 hcl.2 hL (by omega) ⟨by omega, by omega⟩ sS.2.2.2.2.2.2.1 hA8 hLA (Or.inr ⟨rp1, D, t6, t4, t5, t7, hGl', hAQ, fun m1 r1 r2 r3 r4 => ⟨fun _ e13 => hKr m1 ⟨_, chl1, rp1, dp1, com m sC sn sn' sS s3 s4 hPA0 _ m1 r1 r2 r3 r4 rfl rfl rfl rfl, Or.inr (Or.inl ⟨bd (fE FL0).length (Cs.getD c ([], [])) cut ++ rest, ⟨h2, (c, cut) :: s, FL0 ++ [(c, Cs.getD c ([], []))], bd (fE FL0).length (Cs.getD c ([], [])) cut ++ rest, [], ?_, eE.symm, rfl, fun q hq => absurd hq (List.not_mem_nil), t8, r4, ?_, ?_, ?_, ?_, D, t7, by omega⟩, h1, e13⟩)⟩, fun z => absurd hsm (by omega)⟩⟩)
      · refine ⟨FL0, GLp, rp, g, k, rest, hP, hstr, hc, rfl, rfl, by rw [eE]; exact t6, ?_⟩
        rw [eE]
        have hpos : ∀ x ∈ (bd (fE FL0).length (Cs.getD c ([], [])) cut ++ rest).map Prod.fst, 1 ≤ (TL (fE FL0 ++ pL (Cs.getD c ([], []))) rp1 D x).length := fun x hx => by
          obtain ⟨q, hq, e⟩ := List.mem_map.mp hx
          subst e
          exact TL_pos (t7 _ (hGl' q hq))
        refine ⟨⟨D, t7, fun q hq => ⟨hGl' q hq, ?_⟩⟩, t6.1.2.1, t4, t6.2.1, t5, ?_, fun q hq => ?_⟩
        · have := tot_le (E := fE FL0 ++ pL (Cs.getD c ([], []))) (g := rp1) (D := D) q.1 (List.mem_map.mpr ⟨q, hq, rfl⟩)
          omega
        · have := tot_len hpos
          rw [List.length_map] at this
          omega
        · rcases List.mem_append.mp hq with w | w
          · exact (hbd q w).2
          · have hq' := hGl q (hmem q (List.mem_cons_of_mem _ w))
            rw [en_app hq'.1]
            exact gn q (hmem q (List.mem_cons_of_mem _ w))
      · show se.1 3 + 1 = ((s.length + 1 : Nat) : Int); omega
      · show s.length + 1 ≤ 60; omega
      · intro d hd; have := hcs d hd; show d.1.length < s.length + 1; omega
      · show go1.1 0 ≤ 8 * (((s.length + 1 : Nat) : Int) + 1); omega
    · have hM := MW_path sS hP (by omega)
      have hLA : ∀ v : Nat, v < AL.length → Lo FL0 (m.2.1 14 (v : Int)) 0 (AL.getD v 0) := fun v hv => by
        rw [f3]; exact Lo_first (sS.2.2.2.2.2.2.2.2.1 v hv)
      have hr16 : m.1 16 = (s.length : Int) := by rw [← s3]; exact h3
      have hPA0 := hR.choose_spec.2.2.2
      refine sp_resolveM (AL := AL) (rest := rest) (s := s) hM hR hr16 f2 h60 gC gV gr hg hD0 hg120 (sS.1 c hc) (by have := sS.2.2.1; omega) hcl.1.1 hcl.1.2.1 hcl.2 hL (by omega) ⟨by omega, by omega⟩ sS.2.2.2.2.2.2.1 hA8 hLA (Or.inr ⟨rp1, D, t6, t4, t5, t7, hGl', hAQ, fun m1 r1 r2 r3 r4 => ⟨fun z => absurd hbig (by omega), fun _ e13 e14 => hKr m1 ⟨_, chl1, rp1, dp1, com m sC sn sn' sS s3 s4 hPA0 _ m1 r1 r2 r3 r4 rfl rfl rfl rfl, Or.inr (Or.inr ⟨h2, rfl, e13, e14, _, t8, r4.choose_spec.2.2.1.2, ?_⟩)⟩⟩⟩)
      rw [List.length_append, bd_len]
      omega
