/-! the search: a new frame -/
theorem slx_app : ∀ (Ps Qs : List Part) (f x : Nat), x < (psL Ps).length → slx (Ps ++ Qs) f x = slx Ps f x
  | [], Qs, f, x, h => absurd h (Nat.not_lt_zero _)
  | P :: Ps, Qs, f, x, h => by
    show (if x < (pL P).length then _ else slx (Ps ++ Qs) (f + 1) (x - (pL P).length)) = (if x < (pL P).length then _ else slx Ps (f + 1) (x - (pL P).length))
    by_cases q : x < (pL P).length
    · rw [if_pos q, if_pos q]
    · rw [if_neg q, if_neg q]
      rw [psL_cons, List.length_append] at h
      exact slx_app Ps Qs (f + 1) _ (by omega)
theorem fE_snoc (FL : List Frm) (q : Frm) : fE (FL ++ [q]) = fE FL ++ pL q.2 := by
  rw [fE_app, fE_cons]
  show fE FL ++ (pL q.2 ++ []) = _
  rw [List.append_nil]
theorem sl_old {FL : List Frm} {q : Frm} {x : Nat} (h : x < (fE FL).length) : sl (FL ++ [q]) x = sl FL x := by
  unfold sl fP
  rw [List.map_append]
  exact slx_app _ _ 0 x h
theorem sl_new {FL : List Frm} {q : Frm} {j : Nat} (h : j < (pL q.2).length) : sl (FL ++ [q]) ((fE FL).length + j) = 8 * FL.length + cM (pL q.2) j := by
  unfold sl fE fP
  rw [List.map_append]
  have := slx_at (FL.map Prod.snd) q.2 [] 0 j h
  rw [List.length_map, Nat.zero_add] at this
  exact this
theorem Lo_mono {FL : List Frm} {q : Frm} {p f : Int} {x : Nat} (h : Lo FL p f x) : Lo (FL ++ [q]) p f x := by
  obtain ⟨A, c, P, C, j, h1, h2, h3, h4, h5⟩ := h
  exact ⟨A, c, P, C ++ [q], j, by rw [h1, List.append_assoc]; rfl, h2, h3, h4, h5⟩
theorem rpN_old {E0 L : List Sy} {rp : Nat → Nat} {x : Nat} (h : x < E0.length) : rpN E0 L rp x = rp x := if_pos h
theorem rpN_new {E0 L : List Sy} {rp : Nat → Nat} (j : Nat) : rpN E0 L rp (E0.length + j) = E0.length + fv L j := by
  unfold rpN
  rw [if_neg (by omega), show E0.length + j - E0.length = j by omega]
theorem split_x {E0 L : List Sy} {x : Nat} (h : x < (E0 ++ L).length) : x < E0.length ∨ ∃ j, j < L.length ∧ x = E0.length + j := by
  rw [List.length_append] at h
  by_cases q : x < E0.length
  · exact Or.inl q
  · exact Or.inr ⟨x - E0.length, by omega, by omega⟩
section NF
variable {E0 L : List Sy} {rp : Nat → Nat}
theorem rpN_mix {x j : Nat} (hr : ∀ x, x < E0.length → rp x < E0.length) (hx : x < E0.length) : rpN E0 L rp x ≠ rpN E0 L rp (E0.length + j) := by
  rw [rpN_old hx, rpN_new]
  have := hr x hx
  omega
theorem Clo_new (hW : WE E0) (hr : ∀ x, x < E0.length → rp x < E0.length) (h : Clo E0 (Rf rp)) : Clo (E0 ++ L) (Rf (rpN E0 L rp)) := by
  intro x y hx hy e vx vy
  have e : rpN E0 L rp x = rpN E0 L rp y := e
  rcases split_x hx with q1 | ⟨i, hi, rfl⟩ <;> rcases split_x hy with q2 | ⟨j, hj, rfl⟩
  · rw [isV_app q1] at vx
    rw [isV_app q2] at vy
    rw [rpN_old q1, rpN_old q2] at e
    have := h x y q1 q2 e vx vy
    rw [en_app q1, en_app q2, nA_app q1]
    refine ⟨this.1, fun k hk => ?_⟩
    have e2 : nA E0 y = nA E0 x := by unfold nA; rw [this.1]
    rw [ch_app hW q1 (by omega), ch_app hW q2 (by omega)]
    show rpN E0 L rp _ = rpN E0 L rp _
    rw [rpN_old (ch_lt hW q1 hk), rpN_old (ch_lt hW q2 (by omega))]
    exact this.2 k hk
  · exact absurd e (rpN_mix hr q1)
  · exact absurd e.symm (rpN_mix hr q2)
  · rw [rpN_new, rpN_new] at e
    rcases fv_eq hi hj (by omega) with w | ⟨w, -⟩
    · subst w
      exact ⟨rfl, fun k _ => rfl⟩
    · exact absurd ((isV_app_r E0 L i).mpr w) vx
theorem VR_new (hr : ∀ x, x < E0.length → rp x < E0.length) (h : VR E0 rp) : VR (E0 ++ L) (rpN E0 L rp) := by
  intro x y hx hy e hv
  rcases split_x hx with q1 | ⟨i, hi, rfl⟩ <;> rcases split_x hy with q2 | ⟨j, hj, rfl⟩
  · rw [isV_app q2]
    rw [rpN_old q1] at hv
    rw [isV_app (hr x q1)] at hv
    rw [rpN_old q1, rpN_old q2] at e
    exact h x y q1 q2 e hv
  · exact absurd e (rpN_mix hr q1)
  · exact absurd e.symm (rpN_mix hr q2)
  · rw [rpN_new, rpN_new] at e
    rw [rpN_new, isV_app_r] at hv
    rw [isV_app_r]
    have hf : fv L i = fv L j := by omega
    rw [hf] at hv
    by_cases w : (L.getD j (0, 0)).1 = -1 ∧ (L.getD j (0, 0)).2 ≠ 95
    · exact w.1
    · have e2 : fv L j = j := if_neg w
      rw [e2] at hv
      exact hv
def rkN (E0 L : List Sy) (ρ : Nat → Nat) : Nat → Nat := fun x => if x < E0.length then ρ x else if (en L (x - E0.length)).1 = -1 then 0 else L.length - (x - E0.length)
theorem rkN_old {ρ : Nat → Nat} {x : Nat} (h : x < E0.length) : rkN E0 L ρ x = ρ x := if_pos h
theorem rkN_new {ρ : Nat → Nat} (j : Nat) : rkN E0 L ρ (E0.length + j) = if (en L j).1 = -1 then 0 else L.length - j := by
  unfold rkN
  rw [if_neg (by omega), show E0.length + j - E0.length = j by omega]
theorem Acy_new (hW : WE E0) (hWL : WE L) (hr : ∀ x, x < E0.length → rp x < E0.length) (h : Acy E0 (Rf rp)) : Acy (E0 ++ L) (Rf (rpN E0 L rp)) := by
  obtain ⟨ρ, h1, h2⟩ := h
  refine ⟨rkN E0 L ρ, fun x y hx hy e => ?_, fun x hx k hk => ?_⟩
  · have e : rpN E0 L rp x = rpN E0 L rp y := e
    rcases split_x hx with q1 | ⟨i, hi, rfl⟩ <;> rcases split_x hy with q2 | ⟨j, hj, rfl⟩
    · rw [rpN_old q1, rpN_old q2] at e
      rw [rkN_old q1, rkN_old q2]
      exact h1 x y q1 q2 e
    · exact absurd e (rpN_mix hr q1)
    · exact absurd e.symm (rpN_mix hr q2)
    · rw [rpN_new, rpN_new] at e
      rcases fv_eq hi hj (by omega) with w | ⟨w1, w2, -⟩
      · subst w; rfl
      · have w1 : (en L i).1 = -1 := w1
        have w2 : (en L j).1 = -1 := w2
        rw [rkN_new, rkN_new, if_pos w1, if_pos w2]
  · rcases split_x hx with q1 | ⟨i, hi, rfl⟩
    · rw [nA_app q1] at hk
      rw [ch_app hW q1 (by omega), rkN_old (ch_lt hW q1 hk), rkN_old q1]
      exact h2 x q1 k hk
    · rw [nA_app_r] at hk
      have hlt := ch_lt hWL hi hk
      have hgt := ch_gt (E := L) i k
      rw [ch_app_r, rkN_new, rkN_new]
      have vi : ¬ (en L i).1 = -1 := fun z => by rw [isV_nA z] at hk; omega
      rw [if_neg vi]
      split <;> omega
/-- the cells that a new frame can touch -/
def FR (E0 L : List Sy) (g : Nat → Nat) (n a : Nat) : List Nat := TL E0 g n a ++ (List.range L.length).map (fun j => E0.length + j)
theorem TL_cl {E : List Sy} {g : Nat → Nat} (hW : WE E) (hg : ∀ x, x < E.length → g x < E.length ∧ g (g x) = g x) : ∀ {n x : Nat}, x < E.length → Dp E g n x → ∀ c ∈ TL E g n x, c < E.length ∧ g c = c ∧ ∀ k, k < nA E c → g (ch E c k) ∈ TL E g n x
  | 0, x, _, hd, _, _ => absurd hd id
  | n + 1, x, hx, hd, c, hc => by
    have gx := hg x hx
    have sub : ∀ k, k < nA E (g x) → ∀ z ∈ TL E g n (ch E (g x) k), z ∈ TL E g (n + 1) x := fun k hk z hz => List.mem_cons_of_mem _ (List.mem_flatten.mpr ⟨_, List.mem_map.mpr ⟨k, List.mem_range.mpr hk, rfl⟩, hz⟩)
    rcases List.mem_cons.mp hc with e | e
    · subst e
      exact ⟨gx.1, gx.2, fun k hk => sub k hk _ (TL_hd (hd k hk))⟩
    · obtain ⟨l, hl, hz⟩ := List.mem_flatten.mp e
      obtain ⟨k, hk, e⟩ := List.mem_map.mp hl
      subst e
      have hk := List.mem_range.mp hk
      obtain ⟨h1, h2, h3⟩ := TL_cl hW hg (ch_lt hW gx.1 hk) (hd k hk) c hz
      exact ⟨h1, h2, fun j hj => sub k hk _ (h3 j hj)⟩
theorem FR_cl {g g' : Nat → Nat} {n a : Nat} (hW : WE E0) (hWL : WE L) (hg : ∀ x, x < E0.length → g x < E0.length ∧ g (g x) = g x) (ha : a < E0.length) (hD : Dp E0 g n a) (e1 : ∀ x, x < E0.length → g' x = g x) (e2 : ∀ j, j < L.length → ∃ i, i < L.length ∧ g' (E0.length + j) = E0.length + i) : FCl (E0 ++ L) g' (FR E0 L g n a) := by
  intro c hc
  have inR : ∀ i, i < L.length → E0.length + i ∈ FR E0 L g n a := fun i hi => List.mem_append_right _ (List.mem_map.mpr ⟨i, List.mem_range.mpr hi, rfl⟩)
  rcases List.mem_append.mp hc with q | q
  · obtain ⟨h1, h2, h3⟩ := TL_cl hW hg ha hD c q
    refine ⟨by rw [List.length_append]; omega, ?_, fun k hk => ?_⟩
    · rw [e1 c h1, h2]; exact hc
    · rw [nA_app h1] at hk
      rw [ch_app hW h1 (by omega), e1 _ (ch_lt hW h1 hk)]
      exact List.mem_append_left _ (h3 k hk)
  · obtain ⟨j, hj, e⟩ := List.mem_map.mp q
    have hj := List.mem_range.mp hj
    subst e
    refine ⟨by rw [List.length_append]; omega, ?_, fun k hk => ?_⟩
    · obtain ⟨i, hi, e⟩ := e2 j hj
      rw [e]; exact inR i hi
    · rw [nA_app_r] at hk
      rw [ch_app_r]
      obtain ⟨i, hi, e⟩ := e2 _ (ch_lt hWL hj hk)
      rw [e]; exact inR i hi
theorem FR_len {g : Nat → Nat} {n a : Nat} : (FR E0 L g n a).length = (TL E0 g n a).length + L.length := by
  unfold FR
  rw [List.length_append, List.length_map, List.length_range]
theorem Fr_sum : ∀ {T : List Sy} {b : Nat}, Fr T b → (T.map (fun e => e.1.toNat)).sum + b = T.length
  | [], b, h => by
    have h : b = 0 := h
    subst h; rfl
  | x :: T, b, h => by
    obtain ⟨b', h1, h2, h3⟩ := h
    have := Fr_sum h1
    rw [List.map_cons, List.sum_cons, List.length_cons]
    omega
theorem map_get : ∀ (T : List Sy), (List.range T.length).map (fun j => nA T j) = T.map (fun e => e.1.toNat)
  | [] => rfl
  | x :: T => by
    rw [List.length_cons, List.range_succ_eq_map, List.map_cons, List.map_cons, List.map_map, ← map_get T]
    rfl
theorem TL_sum {E : List Sy} {g : Nat → Nat} : ∀ {n x : Nat}, Dp E g n x → ((TL E g n x).map (nA E)).sum + 1 = (TL E g n x).length
  | 0, x, h => absurd h id
  | n + 1, x, h => by
    have key : ∀ k, k ≤ nA E (g x) → ((((List.range k).map (fun j => TL E g n (ch E (g x) j))).flatten).map (nA E)).sum + k = (((List.range k).map (fun j => TL E g n (ch E (g x) j))).flatten).length := by
      intro k
      induction k with
      | zero => intro _; rfl
      | succ k ih =>
        intro hk
        have h1 := ih (by omega)
        have h2 := TL_sum (h k (by omega))
        rw [List.range_succ, List.map_append, List.flatten_append, List.map_append, List.sum_append, List.length_append]
        simp only [List.map_singleton, List.flatten_cons, List.flatten_nil, List.append_nil]
        omega
    have := key _ (Nat.le_refl _)
    show ((g x :: _).map (nA E)).sum + 1 = (g x :: _).length
    rw [List.map_cons, List.sum_cons, List.length_cons]
    omega
theorem FR_sum {g : Nat → Nat} {n a : Nat} (hg : ∀ x, x < E0.length → g x < E0.length ∧ g (g x) = g x) (hW : WE E0) (hWL : WE L) (ha : a < E0.length) (hD : Dp E0 g n a) : ((FR E0 L g n a).map (nA (E0 ++ L))).sum ≤ (TL E0 g n a).length + L.length := by
  unfold FR
  rw [List.map_append, List.sum_append]
  have e1 : (TL E0 g n a).map (nA (E0 ++ L)) = (TL E0 g n a).map (nA E0) := List.map_congr_left (fun c hc => nA_app (TL_cl hW hg ha hD c hc).1)
  have e2 : ((List.range L.length).map (fun j => E0.length + j)).map (nA (E0 ++ L)) = (List.range L.length).map (fun j => nA L j) := by
    rw [List.map_map]
    exact List.map_congr_left (fun j _ => nA_app_r E0 L j)
  rw [e1, e2, map_get]
  obtain ⟨b, hb⟩ := hWL
  have h1 := Fr_sum hb
  have h2 := TL_sum hD
  omega
end NF
/-- variables with the same place are the same -/
theorem cM_fv {L : List Sy} {i j : Nat} (hi : i < L.length) (hj : j < L.length) (vi : (L.getD i (0, 0)).1 = -1) (vj : (L.getD j (0, 0)).1 = -1) (h : cM L i = cM L j) : fv L i = fv L j := by
  have lone : ∀ {a : Nat}, a < L.length → (L.getD a (0, 0)).1 = -1 → (L.getD a (0, 0)).2 = 95 → (vM L).getD (vM (L.take a)).length 0 = 95 ∧ (vM (L.take (a + 1))).length = (vM (L.take a)).length + 1 := fun {a} ha va h95 => by
    have es := take_succ ha
    have e2 : vM (L.take (a + 1)) = vM (L.take a) ++ [(L.getD a (0, 0)).2] := by
      rw [es, vM_snoc]
      exact if_pos ⟨va, Or.inl h95⟩
    obtain ⟨t, ht⟩ := vM_ext (L.take (a + 1)) (L.drop (a + 1))
    rw [List.take_append_drop] at ht
    refine ⟨?_, by rw [e2, List.length_append, List.length_singleton]⟩
    rw [ht, e2, List.append_assoc, List.getD_eq_getElem?_getD, List.getElem?_append_right (Nat.le_refl _), Nat.sub_self]
    show (L.getD a (0, 0)).2 = 95
    exact h95
  have mono : ∀ {a b : Nat}, a ≤ b → (vM (L.take a)).length ≤ (vM (L.take b)).length := fun {a b} hab => by
    have : L.take b = L.take a ++ (L.take b).drop a := by
      have h1 := (List.take_append_drop a (L.take b)).symm
      rw [List.take_take, Nat.min_eq_left hab] at h1
      exact h1
    obtain ⟨t, ht⟩ := vM_ext (L.take a) ((L.take b).drop a)
    rw [this, ht, List.length_append]
    omega
  unfold cM at h
  rw [if_pos vi, if_pos vj] at h
  by_cases a : (L.getD i (0, 0)).2 = 95 <;> by_cases c : (L.getD j (0, 0)).2 = 95
  · rw [if_pos a, if_pos c] at h
    have l1 := (lone hi vi a).2
    have l2 := (lone hj vj c).2
    have : i = j := by
      rcases Nat.lt_trichotomy i j with q | q | q
      · have := mono (show i + 1 ≤ j from q); omega
      · exact q
      · have := mono (show j + 1 ≤ i from q); omega
    rw [this]
  · rw [if_pos a, if_neg c] at h
    have l1 := (lone hi vi a).1
    have hm := mem_vM (gD_mem hj) vj c
    rw [h, (idx_lt hm).2] at l1
    exact absurd l1 c
  · rw [if_neg a, if_pos c] at h
    have l1 := (lone hj vj c).1
    have hm := mem_vM (gD_mem hi) vi a
    rw [← h, (idx_lt hm).2] at l1
    exact absurd l1 a
  · rw [if_neg a, if_neg c] at h
    have := idx_inj (mem_vM (gD_mem hi) vi a) (mem_vM (gD_mem hj) vj c) h
    unfold fv
    rw [if_pos ⟨vi, a⟩, if_pos ⟨vj, c⟩, this]
section NI
variable {FL : List Frm} {q : Frm} {rp : Nat → Nat} {BL : List (Nat × Nat)}
theorem fo_old (hB : BOk (fE FL) (sl FL) BL) {x : Nat} (hx : x < (fE FL).length) : ∀ {BL : List (Nat × Nat)}, BOk (fE FL) (sl FL) BL → fo (fE FL ++ pL q.2) (sl (FL ++ [q])) BL x = fo (fE FL) (sl FL) BL x
  | [], _ => rfl
  | r :: BL, h => by
    have ih := fo_old hB hx h.2.2.2
    have hl := (fo_fin (s := sl FL) hx h.2.2.2).1
    show (if (en (fE FL ++ pL q.2) (fo (fE FL ++ pL q.2) (sl (FL ++ [q])) BL x)).1 = -1 ∧ sl (FL ++ [q]) (fo (fE FL ++ pL q.2) (sl (FL ++ [q])) BL x) = r.1 then r.2 else fo (fE FL ++ pL q.2) (sl (FL ++ [q])) BL x) = (if (en (fE FL) (fo (fE FL) (sl FL) BL x)).1 = -1 ∧ sl FL (fo (fE FL) (sl FL) BL x) = r.1 then r.2 else fo (fE FL) (sl FL) BL x)
    rw [ih, en_app hl, sl_old hl]
theorem BOk_new : ∀ {BL : List (Nat × Nat)}, BOk (fE FL) (sl FL) BL → BOk (fE FL ++ pL q.2) (sl (FL ++ [q])) BL
  | [], _ => trivial
  | r :: BL, h => by
    obtain ⟨h1, h2, h3, h4⟩ := h
    refine ⟨h1, by rw [List.length_append]; omega, fun hv => ?_, BOk_new h4⟩
    rw [isV_app h2] at hv
    rw [sl_old h2]
    exact h3 hv
theorem lk_big (hS : ∀ r ∈ BL, r.1 < 8 * FL.length) {v : Nat} (hv : 8 * FL.length ≤ v) : lk BL v = none := lk_mem.mpr (fun z => by
  obtain ⟨r, hr, e⟩ := List.mem_map.mp z
  have := hS r hr
  omega)
theorem fo_new (hS : ∀ r ∈ BL, r.1 < 8 * FL.length) {j : Nat} (hj : j < (pL q.2).length) : fo (fE FL ++ pL q.2) (sl (FL ++ [q])) BL ((fE FL).length + j) = (fE FL).length + j := by
  refine fo_un (lk_big hS ?_)
  rw [sl_new hj]
  omega
theorem Inv_new (hW : WE (fE FL)) (hWL : WE (pL q.2)) (hr : ∀ x, x < (fE FL).length → rp x < (fE FL).length) (hsl : ∀ x, x < (fE FL).length → isV (fE FL) x → sl FL x < 8 * FL.length) (h : Inv FL rp BL) : Inv (FL ++ [q]) (rpN (fE FL) (pL q.2) rp) BL := by
  obtain ⟨i1, i2, i3, i4, ⟨D, hD⟩, i6⟩ := h
  unfold Inv
  rw [fE_snoc]
  have fol : ∀ x, x < (fE FL).length → fo (fE FL ++ pL q.2) (sl (FL ++ [q])) BL x = fo (fE FL) (sl FL) BL x := fun x hx => fo_old i1 hx i1
  have foL : ∀ x, x < (fE FL).length → fo (fE FL) (sl FL) BL x < (fE FL).length := fun x hx => (fo_fin hx i1).1
  refine ⟨BOk_new i1, fun r hr => ?_, fun x hx => ?_, fun x y hx hy e hv => ?_, ⟨D + (pL q.2).length + 1, fun x hx => ?_⟩, fun x y hx hy vx vy es => ?_⟩
  · have := i2 r hr
    rw [List.length_append, List.length_singleton]
    omega
  · rcases split_x hx with w | ⟨j, hj, rfl⟩
    · rw [fol x w, rpN_old (foL x w), rpN_old w]; exact i3 x w
    · rw [fo_new i2 hj]
  · rcases split_x hx with w1 | ⟨i, hi, rfl⟩ <;> rcases split_x hy with w2 | ⟨j, hj, rfl⟩
    · rw [rpN_old w1, rpN_old w2] at e
      rw [fol x w1, isV_app (foL x w1)] at hv
      rw [fol x w1, fol y w2, isV_app (foL y w2), sl_old (foL x w1), sl_old (foL y w2)]
      exact i4 x y w1 w2 e hv
    · exact absurd e (rpN_mix hr w1)
    · exact absurd e.symm (rpN_mix hr w2)
    · rw [fo_new i2 hi, isV_app_r] at hv
      rw [fo_new i2 hi, fo_new i2 hj, isV_app_r, sl_new hi, sl_new hj]
      rw [rpN_new, rpN_new] at e
      rcases fv_eq hi hj (by omega) with w | ⟨w1, w2, w3, w4⟩
      · subst w; exact ⟨hv, rfl⟩
      · refine ⟨w2, ?_⟩
        have : cM (pL q.2) i = cM (pL q.2) j := by
          unfold cM
          rw [if_pos w1, if_pos w2, if_neg w4, if_neg (by rw [← w3]; exact w4), w3]
        rw [this]
  · rcases split_x hx with w | ⟨j, hj, rfl⟩
    · have key : ∀ (d x : Nat), x < (fE FL).length → Dp (fE FL) (fo (fE FL) (sl FL) BL) d x → Dp (fE FL ++ pL q.2) (fo (fE FL ++ pL q.2) (sl (FL ++ [q])) BL) d x := by
        intro d
        induction d with
        | zero => intro x _ h; exact h
        | succ d ih =>
          intro x hx h k hk
          rw [fol x hx, nA_app (foL x hx)] at hk
          rw [fol x hx, ch_app hW (foL x hx) (by omega)]
          exact ih _ (ch_lt hW (foL x hx) hk) (h k hk)
      have := Dp_le (key D x w (hD x w)) ((pL q.2).length + 1)
      rw [show D + ((pL q.2).length + 1) = D + (pL q.2).length + 1 by omega] at this
      exact this
    · have key : ∀ (d j : Nat), j < (pL q.2).length → (pL q.2).length < d + j → Dp (fE FL ++ pL q.2) (fo (fE FL ++ pL q.2) (sl (FL ++ [q])) BL) d ((fE FL).length + j) := by
        intro d
        induction d with
        | zero => intro j h1 h2; omega
        | succ d ih =>
          intro j h1 h2 k hk
          rw [fo_new i2 h1, nA_app_r] at hk
          rw [fo_new i2 h1, ch_app_r]
          have hgt := ch_gt (E := pL q.2) j k
          exact ih _ (ch_lt hWL h1 hk) (by omega)
      have := Dp_le (key ((pL q.2).length + 1) j hj (by omega)) D
      rw [show (pL q.2).length + 1 + D = D + (pL q.2).length + 1 by omega] at this
      exact this
  · rcases split_x hx with w1 | ⟨i, hi, rfl⟩ <;> rcases split_x hy with w2 | ⟨j, hj, rfl⟩
    · rw [isV_app w1] at vx
      rw [isV_app w2] at vy
      rw [sl_old w1, sl_old w2] at es
      rw [rpN_old w1, rpN_old w2]
      exact i6 x y w1 w2 vx vy es
    · rw [isV_app w1] at vx
      rw [sl_old w1, sl_new hj] at es
      have := hsl x w1 vx
      omega
    · rw [isV_app w2] at vy
      rw [sl_old w2, sl_new hi] at es
      have := hsl y w2 vy
      omega
    · rw [isV_app_r] at vx vy
      rw [sl_new hi, sl_new hj] at es
      rw [rpN_new, rpN_new, cM_fv hi hj vx vy (by omega)]
end NI
