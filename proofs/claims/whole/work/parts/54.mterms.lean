/-! the search: the reference counts symbols and looks for a variable -/
section MTR
variable {FL : List Frm} {BL : List (Nat × Nat)}
theorem fo_g (hB : BOk (fE FL) (sl FL) BL) : ∀ y, y < (fE FL).length → fo (fE FL) (sl FL) BL y < (fE FL).length ∧ fo (fE FL) (sl FL) BL (fo (fE FL) (sl FL) BL y) = fo (fE FL) (sl FL) BL y := fun y hy => ⟨(fo_fin hy hB).1, fo_fo hy hB⟩
theorem MW_n4 {m : Ob} (hM : MW FL m) {x : Nat} (hx : x < (fE FL).length) : okS (en (fE FL) x) ∧ (en (fE FL) x).1 ≤ 4 := by
  have : ∀ (Gs : List Frm), (∀ q ∈ Gs, PSh q.2 ∧ ¬ ovP q.2) → ∀ y, y < (fE Gs).length → okS (en (fE Gs) y) ∧ (en (fE Gs) y).1 ≤ 4 := by
    intro Gs
    induction Gs with
    | nil => intro _ y hy; exact absurd hy (Nat.not_lt_zero _)
    | cons q Gs ih =>
      intro h y hy
      rw [fE_cons] at hy ⊢
      by_cases w : y < (pL q.2).length
      · rw [en_app w]
        have h1 := h q List.mem_cons_self
        exact ⟨PSh_ok h1.1 _ (gD_mem w), (ov_40 h1.2).2.2.2 _ (gD_mem w)⟩
      · obtain ⟨j, hj⟩ : ∃ j, y = (pL q.2).length + j := ⟨y - (pL q.2).length, by omega⟩
        subst hj
        rw [en_app_r]
        rw [List.length_append] at hy
        exact ih (fun r hr => h r (List.mem_cons_of_mem _ hr)) j (by omega)
  exact this FL (fun q hq => (hM.1 q hq).2.2) x hx
theorem nA_4 {m : Ob} (hM : MW FL m) {x : Nat} (hx : x < (fE FL).length) : nA (fE FL) x ≤ 4 := by
  have := (MW_n4 hM hx).2
  unfold nA
  omega
/-- the waiting cells after one was taken -/
def wsN (E : List Sy) (r d : Nat) (ws : List (Nat × Nat)) : List (Nat × Nat) := (List.range (nA E r)).map (fun k => (ch E r k, d)) ++ ws
theorem wsN_fst (E : List Sy) (r d : Nat) (ws : List (Nat × Nat)) : (wsN E r d ws).map Prod.fst = ag E r (nA E r) (nA E r) ++ ws.map Prod.fst := by
  unfold wsN
  rw [List.map_append, List.map_map, ag_all]
  rfl
theorem wsN_len (E : List Sy) (r d : Nat) (ws : List (Nat × Nat)) : (wsN E r d ws).length = nA E r + ws.length := by
  unfold wsN
  rw [List.length_append, List.length_map, List.length_range]
theorem wsN_mem {E : List Sy} {r d : Nat} {ws : List (Nat × Nat)} {q : Nat × Nat} : q ∈ wsN E r d ws ↔ q ∈ ws ∨ ∃ k, k < nA E r ∧ q = (ch E r k, d) := by
  unfold wsN
  rw [List.mem_append, List.mem_map]
  constructor
  · rintro (⟨k, hk, e⟩ | h)
    · exact Or.inr ⟨k, List.mem_range.mp hk, e.symm⟩
    · exact Or.inl h
  · rintro (h | ⟨k, hk, e⟩)
    · exact Or.inr h
    · exact Or.inl ⟨k, List.mem_range.mpr hk, e.symm⟩
theorem wsN_sum (E : List Sy) (g : Nat → Nat) (x d : Nat) (ws : List (Nat × Nat)) : ((wsN E (g x) d ws).map (fun q => (TL E g q.2 q.1).length)).sum + 1 = (((x, d + 1) :: ws).map (fun q => (TL E g q.2 q.1).length)).sum := by
  unfold wsN
  rw [List.map_append, List.sum_append, List.map_cons, List.sum_cons, List.map_map]
  have e1 : (TL E g (d + 1) x).length = 1 + ((List.range (nA E (g x))).map (fun k => (TL E g d (ch E (g x) k)).length)).sum := by
    show (((List.range (nA E (g x))).map (fun k => TL E g d (ch E (g x) k))).flatten).length + 1 = _
    rw [List.length_flatten, List.map_map]
    show ((List.range (nA E (g x))).map (fun k => (TL E g d (ch E (g x) k)).length)).sum + 1 = _
    omega
  show ((List.range (nA E (g x))).map (fun k => (TL E g d (ch E (g x) k)).length)).sum + _ + 1 = (TL E g (d + 1) x).length + _
  rw [e1]
  omega
theorem sp_symbols {m : Ob} {p f : Int} {x d : Nat} {K : Int → Ob → Prop} (hM : MW FL m) (hB : BdOk FL m BL) (h : Lo FL p f x) (hD : Dp (fE FL) (fo (fE FL) (sl FL) BL) d x) (hK : ∀ m', sfr m m' → K ((min (TL (fE FL) (fo (fE FL) (sl FL) BL) d x).length 121 : Nat) : Int) m') : wp_M_symbolsOf p f m K := by
  have hW := fE_WE hM
  have hg := fo_g hB.1
  have loop : ∀ (fuel : Nat) (ws : List (Nat × Nat)) (cnt : Nat) (m' : Ob), sfr m m' → MSt FL (m'.2.1 24) 0 (ws.map Prod.fst) → (∀ q ∈ ws, q.1 < (fE FL).length ∧ Dp (fE FL) (fo (fE FL) (sl FL) BL) q.2 q.1) → cnt ≤ 121 → ws.length + cnt ≤ 4 * cnt + 1 → 121 < fuel + cnt → (∀ m2, sfr m m2 → K ((min (cnt + (ws.map (fun q => (TL (fE FL) (fo (fE FL) (sl FL) BL) q.2 q.1).length)).sum) 121 : Nat) : Int) m2) → M_symbolsOf_19 fuel (cnt : Int) (2 * (ws.length : Int)) m' K := by
    intro fuel
    induction fuel with
    | zero => intro ws cnt m' _ _ _ h1 _ h2; omega
    | succ fuel ih =>
      intro ws cnt m' hs hS hws hcnt hl hf hK'
      refine ⟨fun z => ?_, fun z => ⟨fun z2 => ?_, fun z2 => ?_⟩⟩
      · have hnil : ws = [] := by
          cases ws with
          | nil => rfl
          | cons q ws => rw [List.length_cons] at z; omega
        subst hnil
        have := hK' m' hs
        rw [show min (cnt + (([] : List (Nat × Nat)).map (fun q => (TL (fE FL) (fo (fE FL) (sl FL) BL) q.2 q.1).length)).sum) 121 = cnt by simp; omega] at this
        exact this
      · have := hK' m' hs
        rw [show min (cnt + (ws.map (fun q => (TL (fE FL) (fo (fE FL) (sl FL) BL) q.2 q.1).length)).sum) 121 = cnt by omega] at this
        exact this
      · cases ws with
        | nil => rw [List.length_nil] at z; omega
        | cons q ws =>
          obtain ⟨y, e⟩ := q
          obtain ⟨hy, hd⟩ := hws (y, e) List.mem_cons_self
          have hy : y < (fE FL).length := hy
          have hd : Dp (fE FL) (fo (fE FL) (sl FL) BL) e y := hd
          rw [List.length_cons] at hl ⊢
          have hLy := hS.1
          rw [List.length_map, Int.zero_add] at hLy
          have t1 : 2 * ((ws.length + 1 : Nat) : Int) - 2 = 2 * (ws.length : Int) := by omega
          have t2 : 2 * ((ws.length + 1 : Nat) : Int) - 1 = 2 * (ws.length : Int) + 1 := by omega
          rw [t1, t2]
          refine ⟨⟨by omega, by omega⟩, ⟨by omega, by omega⟩, ⟨by omega, by omega⟩, ⟨by omega, by omega⟩, ?_⟩
          refine sp_follow (MW_sfr hM hs) (BdOk_sfr hB hs) hLy (fun p' f' hL => ⟨⟨by omega, by omega⟩, ⟨by omega, by omega⟩, ?_⟩)
          have hs1 := sfr_trans hs (sfr_19 m' p' f')
          have hx' := (hg y hy).1
          have n4 := nA_4 hM hx'
          show wp_M_pushAll p' f' (2 * (ws.length : Int)) (m19 m' p' f') _
          refine sp_pushAll (bs := 0) (l := ws.map Prod.fst) (MW_sfr hM hs1) hL (by rw [List.length_map]; omega) (by decide) (by omega) hS.2 (fun m2 s2 _ _ hS2 => ?_)
          cases e with
          | zero => exact absurd hd id
          | succ e =>
            rw [← wsN_fst _ _ e] at hS2
            have key := ih (wsN (fE FL) (fo (fE FL) (sl FL) BL y) e ws) (cnt + 1) m2 (sfr_trans hs1 s2) hS2 (fun q hq => ?_) (by omega) (by rw [wsN_len]; omega) (by omega) (fun m3 s3 => ?_)
            · rw [wsN_len] at key
              rw [show 2 * (ws.length : Int) + 2 * (nA (fE FL) (fo (fE FL) (sl FL) BL y) : Int) = 2 * ((nA (fE FL) (fo (fE FL) (sl FL) BL y) + ws.length : Nat) : Int) by omega]
              exact key
            · rcases wsN_mem.mp hq with w | ⟨k, hk, w⟩
              · exact hws q (List.mem_cons_of_mem _ w)
              · subst w
                exact ⟨ch_lt hW hx' hk, hd k hk⟩
            · have := hK' m3 s3
              rw [← wsN_sum] at this
              rw [show cnt + 1 + ((wsN (fE FL) (fo (fE FL) (sl FL) BL y) e ws).map (fun q => (TL (fE FL) (fo (fE FL) (sl FL) BL) q.2 q.1).length)).sum = cnt + (((wsN (fE FL) (fo (fE FL) (sl FL) BL y) e ws).map (fun q => (TL (fE FL) (fo (fE FL) (sl FL) BL) q.2 q.1).length)).sum + 1) by omega]
              exact this
  have hl := Lo_en hM h
  refine ⟨by decide, by decide, 123, ?_⟩
  have hs0 : sfr m (sA (sA m 24 0 p) 24 1 f) := ⟨fun _ _ _ => rfl, fun j hj => (if_neg hj).trans (if_neg hj), rfl⟩
  refine loop 123 [(x, d)] 0 _ hs0 ⟨?_, trivial⟩ (fun q hq => ?_) (by decide) (by show 1 + 0 ≤ 4 * 0 + 1; decide) (by decide) (fun m2 s2 => ?_)
  · exact h
  · rw [List.mem_singleton.mp hq]; exact ⟨hl.2.2.2.2.1, hD⟩
  · have := hK m2 s2
    rw [show 0 + (([(x, d)] : List (Nat × Nat)).map (fun q => (TL (fE FL) (fo (fE FL) (sl FL) BL) q.2 q.1).length)).sum = (TL (fE FL) (fo (fE FL) (sl FL) BL) d x).length by simp]
    exact this
/-- a variable stands in a term -/
def Oc (E : List Sy) (g s : Nat → Nat) (v : Nat) (q : Nat × Nat) : Prop := ∃ z, z ∈ TL E g q.2 q.1 ∧ isV E z ∧ s z = v
theorem Oc_succ {E : List Sy} {g s : Nat → Nat} {v x d : Nat} : Oc E g s v (x, d + 1) ↔ (isV E (g x) ∧ s (g x) = v) ∨ ∃ k, k < nA E (g x) ∧ Oc E g s v (ch E (g x) k, d) := by
  unfold Oc
  constructor
  · rintro ⟨z, hz, h1, h2⟩
    rcases List.mem_cons.mp hz with e | e
    · subst e; exact Or.inl ⟨h1, h2⟩
    · obtain ⟨l, hl, hz⟩ := List.mem_flatten.mp e
      obtain ⟨k, hk, e⟩ := List.mem_map.mp hl
      subst e
      exact Or.inr ⟨k, List.mem_range.mp hk, z, hz, h1, h2⟩
  · rintro (⟨h1, h2⟩ | ⟨k, hk, z, hz, h1, h2⟩)
    · exact ⟨g x, List.mem_cons_self, h1, h2⟩
    · exact ⟨z, List.mem_cons_of_mem _ (List.mem_flatten.mpr ⟨_, List.mem_map.mpr ⟨k, List.mem_range.mpr hk, rfl⟩, hz⟩), h1, h2⟩
theorem TL_pos {E : List Sy} {g : Nat → Nat} {d x : Nat} (h : Dp E g d x) : 1 ≤ (TL E g d x).length := List.length_pos_of_mem (TL_hd h)
theorem sp_stands {m : Ob} {p f fr : Int} {v x d : Nat} {F : List Nat} {K : Int → Ob → Prop} (hM : MW FL m) (hB : BdOk FL m BL) (h : Lo FL p f x) (hD : Dp (fE FL) (fo (fE FL) (sl FL) BL) d x) (h0 : 0 ≤ fr) (hfr : fr ≤ 4000) (hF : FCl (fE FL) (fo (fE FL) (sl FL) BL) F) (hFl : F.length ≤ 200) (hxF : fo (fE FL) (sl FL) BL x ∈ F)
    (hK1 : Oc (fE FL) (fo (fE FL) (sl FL) BL) (sl FL) v (x, d) → ∀ m', sfr m m' → (∀ y, y < fr → m'.2.1 24 y = m.2.1 24 y) → K 1 m') (hK0 : ¬ Oc (fE FL) (fo (fE FL) (sl FL) BL) (sl FL) v (x, d) → ∀ m', sfr m m' → (∀ y, y < fr → m'.2.1 24 y = m.2.1 24 y) → K 0 m') : wp_M_stands (v : Int) p f fr m K := by
  have hW := fE_WE hM
  have hg := fo_g hB.1
  have h61 := hM.2
  have loop : ∀ (fuel : Nat) (ws : List (Nat × Nat)) (m' : Ob), sfr m m' → (∀ y, y < fr → m'.2.1 24 y = m.2.1 24 y) → MSt FL (m'.2.1 24) fr (ws.map Prod.fst) → CB (fE FL) (fo (fE FL) (sl FL) BL) F (ws.map Prod.fst) → (∀ q ∈ ws, q.1 < (fE FL).length ∧ Dp (fE FL) (fo (fE FL) (sl FL) BL) q.2 q.1 ∧ fo (fE FL) (sl FL) BL q.1 ∈ F) → (ws.map (fun q => (TL (fE FL) (fo (fE FL) (sl FL) BL) q.2 q.1).length)).sum < fuel → ((∃ q ∈ ws, Oc (fE FL) (fo (fE FL) (sl FL) BL) (sl FL) v q) ↔ Oc (fE FL) (fo (fE FL) (sl FL) BL) (sl FL) v (x, d)) → M_stands_24 fuel (v : Int) fr (fr + 2 * (ws.length : Int)) m' K := by
    intro fuel
    induction fuel with
    | zero => intro ws m' _ _ _ _ _ h; omega
    | succ fuel ih =>
      intro ws m' hs hlow hS hcb hws hf hoc
      refine ⟨fun z => ?_, fun z => ?_⟩
      · have hnil : ws = [] := by
          cases ws with
          | nil => rfl
          | cons q ws => rw [List.length_cons] at z; omega
        subst hnil
        exact hK0 (fun q => by obtain ⟨w, hw, -⟩ := hoc.mpr q; exact absurd hw (List.not_mem_nil)) m' hs hlow
      · cases ws with
        | nil => rw [List.length_nil] at z; omega
        | cons q ws =>
          obtain ⟨y, e⟩ := q
          obtain ⟨hy, hd, hyF⟩ := hws (y, e) List.mem_cons_self
          have hy : y < (fE FL).length := hy
          have hd : Dp (fE FL) (fo (fE FL) (sl FL) BL) e y := hd
          have hyF : fo (fE FL) (sl FL) BL y ∈ F := hyF
          have hcl := CB_len hcb
          rw [List.length_map] at hcl
          rw [List.length_cons]
          have hLy := hS.1
          rw [List.length_map] at hLy
          have t1 : fr + 2 * ((ws.length + 1 : Nat) : Int) - 2 = fr + 2 * (ws.length : Int) := by omega
          have t2 : fr + 2 * ((ws.length + 1 : Nat) : Int) - 1 = fr + 2 * (ws.length : Int) + 1 := by omega
          rw [t1, t2]
          refine ⟨⟨by omega, by omega⟩, ⟨by omega, by omega⟩, ⟨by omega, by omega⟩, ⟨by omega, by omega⟩, ?_⟩
          refine sp_follow (MW_sfr hM hs) (BdOk_sfr hB hs) hLy (fun p' f' hL => ?_)
          have hs1 := sfr_trans hs (sfr_19 m' p' f')
          have hM1 := MW_sfr hM hs1
          have hl := Lo_en hM1 hL
          have hx' := (hg y hy).1
          have n4 := nA_4 hM hx'
          cases e with
          | zero => exact absurd hd id
          | succ e =>
            rw [List.map_cons, List.sum_cons] at hf
            have ePos := wsN_sum (fE FL) (fo (fE FL) (sl FL) BL) y e ws
            rw [List.map_cons, List.sum_cons] at ePos
            have ePos : ((wsN (fE FL) (fo (fE FL) (sl FL) BL y) e ws).map (fun q => (TL (fE FL) (fo (fE FL) (sl FL) BL) q.2 q.1).length)).sum + 1 = (TL (fE FL) (fo (fE FL) (sl FL) BL) (e + 1) y).length + (ws.map (fun q => (TL (fE FL) (fo (fE FL) (sl FL) BL) q.2 q.1).length)).sum := ePos
            have hf : (TL (fE FL) (fo (fE FL) (sl FL) BL) (e + 1) y).length + (ws.map (fun q => (TL (fE FL) (fo (fE FL) (sl FL) BL) q.2 q.1).length)).sum < fuel + 1 := hf
            -- go on with the arguments
            have nx : ¬ (isV (fE FL) (fo (fE FL) (sl FL) BL y) ∧ sl FL (fo (fE FL) (sl FL) BL y) = v) → M_stands_90 (fun x1 x4 x5 m' => M_stands_24 fuel x1 x4 x5 m' K) (v : Int) fr (fr + 2 * ((ws.length + 1 : Nat) : Int)) (m19 m' p' f') K := fun hno => by
              refine ⟨⟨by omega, by omega⟩, ?_⟩
              rw [t1]
              refine sp_pushAll (bs := fr) (l := ws.map Prod.fst) hM1 hL (by rw [List.length_map]) h0 (by omega) hS.2 (fun m2 s2 _ hlow2 hS2 => ?_)
              rw [← wsN_fst _ _ e] at hS2
              have key := ih (wsN (fE FL) (fo (fE FL) (sl FL) BL y) e ws) m2 (sfr_trans hs1 s2) (fun z hz => (hlow2 z (by omega)).trans (hlow z hz)) hS2 ?_ (fun q hq => ?_) (by omega) ?_
              · rw [wsN_len] at key
                rw [show fr + 2 * (ws.length : Int) + 2 * (nA (fE FL) (fo (fE FL) (sl FL) BL y) : Int) = fr + 2 * ((nA (fE FL) (fo (fE FL) (sl FL) BL y) + ws.length : Nat) : Int) by omega]
                exact key
              · rw [wsN_fst]
                exact CB_push hW hg hcb hy hyF hd n4 _ (Nat.le_refl _)
              · rcases wsN_mem.mp hq with w | ⟨k, hk, w⟩
                · exact hws q (List.mem_cons_of_mem _ w)
                · subst w
                  exact ⟨ch_lt hW hx' hk, hd k hk, (hF _ hyF).2.2 k hk⟩
              · rw [← hoc]
                constructor
                · rintro ⟨q, hq, ho⟩
                  rcases wsN_mem.mp hq with w | ⟨k, hk, w⟩
                  · exact ⟨q, List.mem_cons_of_mem _ w, ho⟩
                  · subst w
                    exact ⟨(y, e + 1), List.mem_cons_self, Oc_succ.mpr (Or.inr ⟨k, hk, ho⟩)⟩
                · rintro ⟨q, hq, ho⟩
                  rcases List.mem_cons.mp hq with w | w
                  · subst w
                    rcases Oc_succ.mp ho with z | ⟨k, hk, z⟩
                    · exact absurd z hno
                    · exact ⟨_, wsN_mem.mpr (Or.inr ⟨k, hk, rfl⟩), z⟩
                  · exact ⟨q, wsN_mem.mpr (Or.inl w), ho⟩
            refine ⟨⟨hl.1, hl.2.1⟩, fun hz => nx (fun w => ?_), fun hz => ?_⟩
            · have hz : ¬ m'.2.1 10 p' = -1 := hz
              have := hl.2.2.2.2.2.1
              have this : m'.2.1 10 p' = (en (fE FL) (fo (fE FL) (sl FL) BL y)).1 := this
              exact hz (this.trans w.1)
            · have hz : m'.2.1 10 p' = -1 := hz
              have this : m'.2.1 10 p' = (en (fE FL) (fo (fE FL) (sl FL) BL y)).1 := hl.2.2.2.2.2.1
              have hv : isV (fE FL) (fo (fE FL) (sl FL) BL y) := this.symm.trans hz
              have h8 := hl.2.2.2.2.2.2.2 hv
              have q1 := hl.2.2.1
              have q2 := hl.2.2.2.1
              have q3 : m'.2.2.2 2 p' < 8 := h8.2.1
              have q4 : (sl FL (fo (fE FL) (sl FL) BL y) : Int) = 8 * f' + (m'.2.2.2 2 p' : Int) := h8.1
              refine ⟨⟨?_, ?_⟩, ⟨hl.1, hl.2.1⟩, ?_, ⟨?_, ?_⟩, fun hz2 => nx (fun w => ?_), fun hz2 => ?_⟩
              · show _ ≤ 8 * f'; omega
              · show 8 * f' ≤ _; omega
              · show m'.2.2.2 2 p' < _; omega
              · show _ ≤ 8 * f' + (m'.2.2.2 2 p' : Int); omega
              · show 8 * f' + (m'.2.2.2 2 p' : Int) ≤ _; omega
              · have hz2 : ¬ 8 * f' + (m'.2.2.2 2 p' : Int) = (v : Int) := hz2
                have := w.2
                omega
              · have hz2 : 8 * f' + (m'.2.2.2 2 p' : Int) = (v : Int) := hz2
                refine hK1 (hoc.mp ⟨(y, e + 1), List.mem_cons_self, Oc_succ.mpr (Or.inl ⟨hv, by omega⟩)⟩) _ hs1 (fun z hz => hlow z hz)
  have hl := Lo_en hM h
  refine ⟨⟨by omega, by omega⟩, ⟨by omega, by omega⟩, ⟨by omega, by omega⟩, ⟨by omega, by omega⟩, (TL (fE FL) (fo (fE FL) (sl FL) BL) d x).length + 1, ?_⟩
  have hs0 : sfr m (sA (sA m 24 fr p) 24 (fr + 1) f) := ⟨fun _ _ _ => rfl, fun j hj => (if_neg hj).trans (if_neg hj), rfl⟩
  refine loop _ [(x, d)] _ hs0 (fun y hy => ?_) ⟨?_, trivial⟩ ⟨⟨[], List.nodup_nil, fun c hc => absurd hc (List.not_mem_nil), Nat.le_refl _⟩, trivial⟩ (fun q hq => ?_) (by simp) ?_
  · show (if y = fr + 1 then f else if y = fr then p else m.2.1 24 y) = _
    rw [if_neg (by omega), if_neg (by omega)]
  · show Lo FL (if fr + 2 * ((0 : Nat) : Int) = fr + 1 then f else if fr + 2 * ((0 : Nat) : Int) = fr then p else _) (if fr + 2 * ((0 : Nat) : Int) + 1 = fr + 1 then f else _) x
    rw [if_neg (by omega), if_pos (by omega), if_pos (by omega)]
    exact h
  · rw [List.mem_singleton.mp hq]; exact ⟨hl.2.2.2.2.1, hD, hxF⟩
  · constructor
    · rintro ⟨q, hq, ho⟩
      rw [List.mem_singleton.mp hq] at ho
      exact ho
    · exact fun ho => ⟨_, List.mem_cons_self, ho⟩
end MTR
