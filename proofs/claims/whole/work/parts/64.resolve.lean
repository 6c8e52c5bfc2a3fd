/-! the search: a clause is taken -/
theorem tsz_head {P : Part} (h : nmT P.1) : tsz (pL P) 0 = P.1.length ∧ 0 < (pL P).length := by
  have hF : Fr P.1 1 := by
    have := h.1 [] 0 rfl
    rw [List.append_nil] at this
    exact this
  have key : ∀ (T : List Sy) (n b : Nat), Fr T b → n = b → sk T n = T.length := by
    intro T
    induction T with
    | nil => intro n b hb e; rfl
    | cons y T ih =>
      intro n b hb e
      obtain ⟨b', g1, g2, g3⟩ := hb
      cases n with
      | zero => omega
      | succ n =>
        show 1 + sk T (n + y.1.toNat) = T.length + 1
        rw [ih (n + y.1.toNat) b' g1 (by omega)]
        omega
  refine ⟨?_, ?_⟩
  · unfold tsz pL
    rw [List.drop_zero, sk_app 1 _ hF (Nat.le_refl _), key P.1 1 1 hF rfl]
  · obtain ⟨-, -, a, w, T, e, -⟩ := h
    unfold pL
    rw [e, List.length_append, List.length_cons]
    omega
/-- what a branch knows of its terms -/
def Good (E : List Sy) (GL : List (Nat × Nat)) (rp : Nat → Nat) : Prop := (∃ D, (∀ x, x < E.length → Dp E rp D x) ∧ ∀ q ∈ GL, q.1 < E.length ∧ (TL E rp D q.1).length ≤ 120) ∧ Clo E (Rf rp) ∧ VR E rp ∧ Acy E (Rf rp) ∧ (∀ x, x < E.length → rp x < E.length ∧ rp (rp x) = rp x) ∧ GL.length ≤ 120 ∧ ∀ q ∈ GL, en E q.1 = (-2, 0) ∨ (0 ≤ (en E q.1).1 ∧ (en E q.1).2 ≠ 1 ∧ (en E q.1).2 ≠ 2)
/-- stands before and after, for the first u cells -/
def TrU (u : Nat) (sf : Int → Int) (chl : List Nat) (sf' : Int → Int) (chl' : List Nat) : Prop := ∃ new : List Nat, chl' = chl ++ new ∧ (∀ c ∈ new, c < u → sf (c : Int) = -1) ∧ ∀ x : Nat, x < u → (∀ c ∈ new, x ≠ c) → sf' (x : Int) = sf (x : Int)
theorem OkE_app {NL : List Nat} {E L : List Sy} (h : OkE NL E) (g : OkE NL L) : OkE NL (E ++ L) := by
  intro x hx
  rcases split_x hx with w | ⟨j, hj, rfl⟩
  · rw [en_app w]; exact h x w
  · rw [en_app_r]; exact g j hj
theorem OkE_P {NL : List Nat} {P : Part} (h : ClOk NL P) : OkE NL (pL P) := fun x hx => ⟨PSh_ok h.1 _ (gD_mem hx), (ov_40 h.2.1).2.2.2 _ (gD_mem hx), h.2.2 _ (gD_mem hx)⟩
theorem WE_P {P : Part} (h : PSh P) : WE (pL P) := by
  obtain ⟨b, hb⟩ := PSh_tms h
  exact WE_tms hb
theorem WE_app2 {E L : List Sy} (h : WE E) (g : WE L) : WE (E ++ L) := by
  obtain ⟨b, hb⟩ := h
  obtain ⟨c, hc⟩ := g
  have key : ∀ (T : List Sy) (b : Nat), Fr T b → Fr (T ++ L) (b + c) := by
    intro T
    induction T with
    | nil => intro b h; have h : b = 0 := h; subst h; rw [Nat.zero_add]; exact hc
    | cons y T ih =>
      intro b h
      obtain ⟨b', h1, h2, h3⟩ := h
      exact ⟨b' + c, ih b' h1, by omega, by omega⟩
  exact ⟨b + c, key E b hb⟩
theorem sp_resolveC {NL : List Nat} {Cs : List Part} {E0 : List Sy} {c g cut : Nat} {rest : List (Nat × Nat)} {AL : List Nat} {pr te go se : Ob} {rp dp : Nat → Nat} {chl : List Nat} {b : Int} {K : Ob → Ob → Ob → Prop} (hPr : PrOk NL Cs pr) (hne : ∀ p ∈ Cs, p.1 ≠ []) (hc : c < Cs.length) (hW : WE E0) (hO : OkE NL E0) (hT : TeS NL E0 te rp dp chl) (hlen : E0.length + 40 ≤ 2440) (hGd : Good E0 [(g, 0)] rp) (hG : GoC go rest) (hrest : ∀ q ∈ rest, q.1 < E0.length) (hu : go.1 0 + 8 ≤ 488) (hM : TeM b te) (hb : b ≤ 1000000) (h5 : se.1 5 = (g : Int)) (h6 : se.1 6 = (cut : Int)) (h3 : 0 ≤ se.1 3 ∧ se.1 3 ≤ 100) (h4 : 0 ≤ se.1 4 ∧ se.1 4 ≤ 1000000) (hA0 : se.1 0 = (AL.length : Int)) (hA8 : AL.length ≤ 8) (hA : ∀ v : Nat, v < AL.length → se.2.1 0 (v : Int) = (AL.getD v 0 : Int)) (hAl : ∀ x ∈ AL, x < E0.length)
    (hF : (∀ X, UnX (E0 ++ pL (Cs.getD c ([], []))) (Rf (rpN E0 (pL (Cs.getD c ([], []))) rp)) g E0.length X → Acy (E0 ++ pL (Cs.getD c ([], []))) X → False) → ∀ te' rp' dp' chl', TeS NL (E0 ++ pL (Cs.getD c ([], []))) te' rp' dp' chl' → TrU E0.length (te.2.1 2) chl (te'.2.1 2) chl' → TeM (b + 2) te' → K te' go (sI (sI (sI se 3 (se.1 3 + 1)) 4 (se.1 4 + 1)) 2 1))
    (hS : ∀ te' rp' dp' chl' go' D, TeS NL (E0 ++ pL (Cs.getD c ([], []))) te' rp' dp' chl' → TrU E0.length (te.2.1 2) chl (te'.2.1 2) chl' → TeM (b + 2) te' → VR (E0 ++ pL (Cs.getD c ([], []))) rp' → (∀ x, x < (E0 ++ pL (Cs.getD c ([], []))).length → rp' x < (E0 ++ pL (Cs.getD c ([], []))).length ∧ rp' (rp' x) = rp' x) → Lst (E0 ++ pL (Cs.getD c ([], []))) (Rf (rpN E0 (pL (Cs.getD c ([], []))) rp)) g E0.length rp' → (∀ x, x < (E0 ++ pL (Cs.getD c ([], []))).length → Dp (E0 ++ pL (Cs.getD c ([], []))) rp' D x) → GoC go' (bd E0.length (Cs.getD c ([], [])) cut ++ rest) → go'.1 0 = go.1 0 + ((Cs.getD c ([], [])).2.length : Int) → (∀ x, 0 ≤ x → x < go.1 0 → go'.2.1 0 x = go.2.1 0 x ∧ go'.2.1 1 x = go.2.1 1 x ∧ go'.2.1 2 x = go.2.1 2 x) → (tot (E0 ++ pL (Cs.getD c ([], []))) rp' D ((bd E0.length (Cs.getD c ([], [])) cut ++ rest).map Prod.fst) + tot (E0 ++ pL (Cs.getD c ([], []))) rp' D AL ≤ 120 → K te' go' (sI (sI se 3 (se.1 3 + 1)) 4 (se.1 4 + 1))) ∧ (120 < tot (E0 ++ pL (Cs.getD c ([], []))) rp' D ((bd E0.length (Cs.getD c ([], [])) cut ++ rest).map Prod.fst) + tot (E0 ++ pL (Cs.getD c ([], []))) rp' D AL → K te' go' (sI (sI (sI se 3 (se.1 3 + 1)) 4 (se.1 4 + 1)) 1 4))) : wp_Sea_resolve (c : Int) pr te go se K := by
  obtain ⟨A, C, hA', hAl'⟩ := getD_split hc
  have hmem : Cs.getD c ([], []) ∈ Cs := by
    have : Cs.getD c ([], []) ∈ A ++ Cs.getD c ([], []) :: C := List.mem_append_right _ List.mem_cons_self
    rw [← hA'] at this
    exact this
  obtain ⟨p0, p1, p2, p3, p4⟩ := hPr
  have hcl := p4 _ hmem
  have hnm : nmT (Cs.getD c ([], [])).1 := hcl.1.1.resolve_left (hne _ hmem)
  have hov := ov_40 hcl.2.1
  obtain ⟨⟨D0, hD0, hgl⟩, gC, gV, gA, gr, -, -⟩ := hGd
  obtain ⟨hg, hg120⟩ := hgl (g, 0) List.mem_cons_self
  have hg : g < E0.length := hg
  have hg120 : (TL E0 rp D0 g).length ≤ 120 := hg120
  have hWL := WE_P hcl.1
  have hWE := WE_app2 hW hWL
  have b40 := psL_40 (fun q hq => (p4 q hq).2.1)
  have hr1 : ∀ x, x < E0.length → rp x < E0.length := fun x hx => (gr x hx).1
  generalize hPe : Cs.getD c ([], []) = P at *
  refine ⟨⟨by omega, by omega⟩, ⟨by omega, by omega⟩, ?_⟩
  rw [← hAl']
  refine sp_copy_p hT hWE hW p3 hA' p0 p2 (by omega) hcl.1 hcl.2.1 (by omega) (fun te1 t1 t2 t3 t4 t5 => ?_)
  rw [h5]
  have hM1 : TeM b te1 := by
    unfold TeM
    rw [t2, t3]; exact hM
  have hO1 := OkE_app hO (OkE_P hcl)
  have hcell : E0.length < (E0 ++ pL P).length := by rw [List.length_append]; have := (tsz_head hnm).2; omega
  have hgc : g < (E0 ++ pL P).length := by rw [List.length_append]; omega
  have fl : ∀ j, j < (pL P).length → ∃ i, i < (pL P).length ∧ rpN E0 (pL P) rp (E0.length + j) = E0.length + i := fun j hj => ⟨fv (pL P) j, by have := fv_le hj; omega, rpN_new j⟩
  have hFR := FR_cl (g' := rpN E0 (pL P) rp) hW hWL gr hg (hD0 g hg) (fun x hx => rpN_old hx) fl
  have tr : ∀ (te' : Ob) (chl' : List Nat), Tr (te1.2.1 2) chl (te'.2.1 2) chl' → TrU E0.length (te.2.1 2) chl (te'.2.1 2) chl' := fun te' chl' h => by
    obtain ⟨new, n1, n2, n3⟩ := h
    refine ⟨new, n1, fun d hd hdu => ?_, fun x hx hx2 => ?_⟩
    · rw [← t4 (d : Int) (by omega)]; exact n2 d hd
    · rw [← t4 (x : Int) (by omega)]
      exact n3 (x : Int) (fun d hd e => hx2 d hd (by omega))
  have rb : rpN E0 (pL P) rp E0.length ∈ FR E0 (pL P) rp D0 g := by
    have h0 := (tsz_head hnm).2
    have e : rpN E0 (pL P) rp E0.length = E0.length + fv (pL P) 0 := by
      have := rpN_new (E0 := E0) (L := pL P) (rp := rp) 0
      rw [Nat.add_zero] at this
      exact this
    rw [e]
    have := fv_le h0
    exact List.mem_append_right _ (List.mem_map.mpr ⟨fv (pL P) 0, List.mem_range.mpr (by omega), rfl⟩)
  refine sp_unify hWE hO1 (F := FR E0 (pL P) rp D0 g) (b := b) t1 (Clo_new hW hr1 gC) (Acy_new hW hWL hr1 gA) (VR_new hr1 gV) hgc hcell (by rw [rpN_old hg]; exact List.mem_append_left _ (TL_hd (hD0 g hg))) rb hFR (by rw [FR_len]; omega) (by have := FR_sum (L := pL P) gr hW hWL hg (hD0 g hg); omega) hM1 hb (fun hno te' rp' dp' chl' s1 s2 s3 => ?_) (fun te' rp' dp' chl' s1 s2 s3 s4 s5 => ?_)
  · exact hF hno te' rp' dp' chl' s1 (tr te' chl' s2) s3
  · have hr' : ∀ x, x < (E0 ++ pL P).length → rp' x < (E0 ++ pL P).length ∧ rp' (rp' x) = rp' x := fun x hx => ⟨(Fo_r s1.2.1 hx).1, (Fo_r s1.2.1 hx).2.1⟩
    obtain ⟨D, hD⟩ := Acy_Dp hWE hr' s5.2.1
    have hsz : te'.2.1 1 (E0.length : Int) = (P.1.length : Int) := by
      have := (s1.1.2.2 E0.length hcell).2
      have e := tsz_app_r E0 (pL P) 0
      rw [Nat.add_zero] at e
      rw [e, (tsz_head hnm).1] at this
      exact this
    have ht0 := s1.1.1
    have hl2 := s1.1.2.1
    have hpl : P.1.length ≤ 40 := by
      have : P.1.length ≤ (pL P).length := by unfold pL; rw [List.length_append]; omega
      omega
    refine ⟨fun w => by omega, fun _ => ⟨fun w => by omega, fun _ => ⟨⟨by omega, by omega⟩, ?_⟩⟩⟩
    rw [hsz]
    refine ⟨⟨by omega, by omega⟩, ?_⟩
    show wp_Goa_putBefore ((E0.length : Int) + (P.1.length : Int)) (te'.1 0) (se.1 6) te' go _
    rw [ht0, h6]
    refine sp_putBefore hcl.1 hcl.2.1 s1.1 hG (by have := hov.2.2.1; omega) (fun go' g1 g2 g3 => ?_)
    have hbdl : ∀ (Gs : List (List Sy)) (x : Nat), GZn (pL P) Gs x → ∀ q ∈ bdG Gs (E0.length + x) cut, q.1 < (E0 ++ pL P).length := by
      intro Gs
      induction Gs with
      | nil => intro x _ q hq; exact absurd hq (List.not_mem_nil)
      | cons G Gs ih =>
        intro x hz q hq
        obtain ⟨z1, z2, z3⟩ := hz
        rcases List.mem_cons.mp hq with e | e
        · rw [e, List.length_append]; show E0.length + x < _; omega
        · exact ih (x + G.length) z3 q (by rw [← Nat.add_assoc]; exact e)
    have hGall : ∀ q ∈ bd E0.length P cut ++ rest, q.1 < (E0 ++ pL P).length := fun q hq => by
      rcases List.mem_append.mp hq with w | w
      · exact hbdl P.2 P.1.length (GZn_of hcl.1 P.2 P.1 rfl hcl.1.2) q w
      · rw [List.length_append]; have := hrest q w; omega
    refine sp_isLarge (se := sI (sI se 3 (se.1 3 + 1)) 4 (se.1 4 + 1)) (AL := AL) hWE hO1 s1 hD g1 (by have := hov.2.2.1; omega) hGall hA0 hA8 hA (fun x hx => by rw [List.length_append]; have := hAl x hx; omega) (fun hbig te2 q2 => ⟨fun w => absurd w (by decide), fun _ => ?_⟩) (fun hsm te2 q2 => ⟨fun _ => ?_, fun w => absurd rfl w⟩)
    · exact (hS te2 rp' dp' chl' go' D (TeS_G s1 q2) (by rw [q2.2.2.1]; exact tr te' chl' s2) (TeM_F s3 q2.1) s4 hr' s5 hD g1 g2 g3).2 hbig
    · exact (hS te2 rp' dp' chl' go' D (TeS_G s1 q2) (by rw [q2.2.2.1]; exact tr te' chl' s2) (TeM_F s3 q2.1) s4 hr' s5 hD g1 g2 g3).1 hsm
