/-! answer, both sides together -/
theorem TL_g {E : List Sy} {g : Nat → Nat} {x : Nat} (h : g (g x) = g x) : ∀ D, TL E g D (g x) = TL E g D x
  | 0 => rfl
  | D + 1 => by
    show g (g x) :: ((List.range (nA E (g (g x)))).map (fun k => TL E g D (ch E (g (g x)) k))).flatten = g x :: ((List.range (nA E (g x))).map (fun k => TL E g D (ch E (g x) k))).flatten
    rw [h]
section MA
variable {NL : List Nat} {FL : List Frm} {rp : Nat → Nat} {BL : List (Nat × Nat)} {m0 : Ob} {AL : List Nat} {K : Int → Ob → Prop}
theorem sp_m76 {m : Ob} {N : List Nat} {t : List Int} {z : Int} (h : MWr FL rp BL m N t []) (hl : t.length ≤ 1200) (ht : ltr t) (hz : 0 ≤ z) (hK : K (ansL t z) m) : M_answer_76 z m K := by
  obtain ⟨h0, h1, -, -⟩ := h
  refine ⟨fun q => ?_, fun q => ?_⟩
  · rw [h0] at q
    have e : ansL t z = 0 := if_pos (Or.inr q)
    rw [e] at hK; exact hK
  · rw [h0] at q
    have hzn : z.toNat < t.length := by omega
    have e : m.2.1 25 z = ansL t z := by
      have := h1 z.toNat hzn
      rw [Int.toNat_of_nonneg hz] at this
      rw [this]
      unfold ansL
      rw [if_neg (by omega)]
    have e4 : 0 ≤ ansL t z ∧ ansL t z < 65536 := by
      unfold ansL
      rw [if_neg (by omega)]
      refine ht _ ?_
      rw [List.getD_eq_getElem?_getD, List.getElem?_eq_getElem hzn]
      exact List.getElem_mem hzn
    rw [e]
    exact ⟨⟨by omega, by omega⟩, e4, e4, hK⟩
theorem sp_m55 (hc : WCx NL FL rp BL) (hM : MW FL m0) (hB : BdOk FL m0 BL) (h8 : AL.length ≤ 8) (hLA : ∀ v : Nat, v < AL.length → Lo FL (m0.2.1 14 (v : Int)) 0 (AL.getD v 0)) {v : Nat} (hv : v < AL.length) {z : Int} (hz : 0 ≤ z) {ts : List (List Int)} (hlt : ltr ts.flatten) (hl : ts.flatten.length ≤ 1200) (hK : ∀ m', wxf m0 m' → K (ansL (ts.getD v []) z) m') : ∀ (xs A N N' : List Nat) (out : List Int) (ts0 ts1 : List (List Int)) (m : Ob), AL = A ++ xs → ts = ts0 ++ ts1 → A.length = ts0.length → A.length ≤ v → allC (fE FL) rp xs N out ts1 N' → NSt FL rp BL m N → wxf m0 m → M_answer_55 (xs.length + 1) (v : Int) z (A.length : Int) m K
  | [], A, N, N', out, ts0, ts1, m, e, _, _, hA, _, _, _ => by
    rw [List.append_nil] at e
    subst e
    omega
  | x :: xs, A, N, N', out, ts0, ts1, m, e, e1, el, hA, ha, hN, hf => by
    obtain ⟨t, N1, ts', rfl, -, r2, r3⟩ := ha
    have hx : AL.getD A.length 0 = x := by
      rw [e, List.getD_eq_getElem?_getD, List.getElem?_append_right (Nat.le_refl _), Nat.sub_self]
      rfl
    have hLx := hLA A.length (by omega)
    rw [hx] at hLx
    refine ⟨fun q => by omega, fun _ => ⟨⟨by omega, by omega⟩, ?_⟩⟩
    rw [hf.2.1 14 (by decide) (by decide) (by decide)]
    refine sp_mwrite hc (MW_wxf hM hf) (BdOk_wxf hB hf) hLx hN r2 (fun m1 d1 f1 => ⟨⟨by omega, by omega⟩, ?_⟩)
    have hf1 := wxf_trans hf f1
    by_cases q : A.length = v
    · have et : ts.getD v [] = t := by
        rw [e1, List.getD_eq_getElem?_getD, List.getElem?_append_right (by omega), show v - ts0.length = 0 by omega]
        rfl
      have hmem : t ∈ ts := by rw [e1]; exact List.mem_append_right _ List.mem_cons_self
      rw [et] at hK
      refine ⟨fun _ => ?_, fun w => absurd (by omega) w⟩
      refine sp_m76 d1 ?_ (fun c hc => hlt c (List.mem_flatten.mpr ⟨t, hmem, hc⟩)) hz (hK m1 hf1)
      have : ts.flatten.length = ts0.flatten.length + (t.length + ts'.flatten.length) := by rw [e1, List.flatten_append, List.flatten_cons, List.length_append, List.length_append]
      omega
    · have key := sp_m55 hc hM hB h8 hLA hv hz hlt hl hK xs (A ++ [x]) N1 N' (out ++ t) (ts0 ++ [t]) ts' m1 (by rw [e, List.append_assoc]; rfl) (by rw [e1, List.append_assoc]; rfl) (by rw [List.length_append, List.length_append, el]; rfl) (by rw [List.length_append, List.length_singleton]; omega) r3 d1.2.2.1 hf1
      rw [List.length_append, List.length_singleton] at key
      rw [show (A.length : Int) + 1 = ((A.length + 1 : Nat) : Int) by omega]
      exact key
theorem sp_manswer (hc : WCx NL FL rp BL) (hM : MW FL m0) (hB : BdOk FL m0 BL) (h8 : AL.length ≤ 8) (hLA : ∀ v : Nat, v < AL.length → Lo FL (m0.2.1 14 (v : Int)) 0 (AL.getD v 0)) (h13 : m0.1 13 = 2) (h12 : m0.1 12 = (AL.length : Int)) {v : Nat} (hv : v < AL.length) {z : Int} {ts : List (List Int)} {N' : List Nat} (ha : allC (fE FL) rp AL [] [] ts N') (hl : ts.flatten.length ≤ 1200) (hK : ∀ m', wxf m0 m' → K (ansL (ts.getD v []) z) m') : wp_M_answer (v : Int) z m0 K := by
  refine ⟨fun w => absurd h13 w, fun _ => ⟨fun w => by omega, fun _ => ⟨fun w => by omega, fun _ => ⟨fun hz => ⟨489, ?_⟩, fun hz => ?_⟩⟩⟩⟩
  · have loop : ∀ (n k : Nat) (m : Ob), k ≤ 488 → 488 < n + k → wxf m0 m → (∀ j : Int, 0 ≤ j → j < (k : Int) → m.2.1 26 j = -1) → M_answer_28 n (v : Int) z (k : Int) m K := by
      intro n
      induction n with
      | zero => intro k m h1 h2; omega
      | succ n ih =>
        intro k m hk hn hf hj
        refine ⟨fun w => ?_, fun w => ⟨⟨by omega, by omega⟩, ⟨by omega, by omega⟩, ?_⟩⟩
        · have hN0 : NSt FL rp BL (sI m 22 0) [] := by
            refine ⟨rfl, fun x hx hvx => ⟨fun q => absurd q (List.not_mem_nil), fun _ => ?_⟩⟩
            show m.2.1 26 (sl FL (fo (fE FL) (sl FL) BL x) : Int) < 0
            have h1 := (fo_fin (s := sl FL) hx hc.1.1).1
            have h2 : sl FL (fo (fE FL) (sl FL) BL x) < 8 * FL.length := by
              have hvf := (wc_v hc hx).mpr hvx
              obtain ⟨p', f', hp⟩ := Lo_ex (FL := FL) h1
              exact ((Lo_en hM hp).2.2.2.2.2.2.2 hvf).2.2
            have h61 := hc.2.2.2.2.2
            rw [hj _ (by omega) (by omega)]
            decide
          refine ⟨AL.length + 1, ?_⟩
          exact sp_m55 hc hM hB h8 hLA hv hz (allC_ltr ha) hl hK AL [] [] N' [] [] ts (sI m 22 0) rfl rfl rfl (Nat.zero_le _) ha hN0 (wxf_trans hf ⟨fun j _ _ _ z4 => if_neg z4, fun _ _ _ _ => rfl, rfl⟩)
        · refine ih (k + 1) _ (by omega) (by omega) (wxf_trans hf ⟨fun _ _ _ _ _ => rfl, fun j _ _ z3 => if_neg z3, rfl⟩) (fun j j0 j1 => ?_)
          show updI (m.2.1 26) (k : Int) (-1) j = -1
          unfold updI
          by_cases q : j = (k : Int)
          · rw [if_pos q]
          · rw [if_neg q]; exact hj j j0 (by omega)
    exact loop 489 0 m0 (by omega) (by omega) (wxf_refl m0) (fun j j0 j1 => by omega)
  · have e : ansL (ts.getD v []) z = 0 := if_pos (Or.inl (by omega))
    rw [e] at hK
    exact hK m0 (wxf_refl m0)
end MA
/-- a written answer -/
def Wx (_ : List Nat) (E : List Sy) (rp : Nat → Nat) (AL : List Nat) (wr : Ob) : Prop := ∃ ts N', allC E rp AL [] [] ts N' ∧ WOk ts wr ∧ ts.flatten.length ≤ 1200
theorem j_answer : J_answer (RlW Wx) := fun i o0 o1 o2 o3 o4 o5 o6 o7 o8 o9 o10 m x z hi h hx hz => by
  have hs := j_skip i o0 o1 o2 o3 o4 o5 o6 o7 o8 o9 o10 m h
  obtain ⟨NL, Cs, hb, h2, h3⟩ := h
  have no : ¬ o9.1 1 = 1 → ¬ m.1 13 = 2 → wp_P_answer x z o2 o6 o9 o10 (fun r o10' => wp_M_answer x z m (fun r' m' => r = r' ∧ RlW Wx (i + 1) o0 o1 o2 o3 o4 o5 o6 o7 o8 o9 o10' m')) := fun w1 w2 => ⟨fun _ => ⟨⟨by decide, by decide⟩, fun _ => ⟨rfl, hs⟩, fun v => absurd v w2⟩, fun v => absurd v w1⟩
  rcases h3 with h3 | ⟨Q, AL, E, rp, h3, h4⟩
  · obtain ⟨n1, -, -, -, -, -, -, -, -, -, -, -, -, n13, -⟩ := h3
    exact no (by omega) (by omega)
  · have h3' := h3
    obtain ⟨chl, dp, chs, hcom, hm⟩ := h3
    rcases hm with ⟨GL, hl, q⟩ | ⟨q1, q2⟩ | ⟨q1, q2, q3, -⟩
    · rcases q with ⟨-, q1, q2⟩ | ⟨-, q1, q2⟩
      · exact no (by omega) (by omega)
      · obtain ⟨c1, s, FL, GLp, pre, d1, d2, d3, d4, d5, ⟨BL, e1, e2, e3, e4⟩, d7, d8, d9, d10, D, hD, ht⟩ := hl
        subst d2
        obtain ⟨a1, a2, a3, a4, hS, a6, a7, a8, -⟩ := hcom
        have hS' := hS
        obtain ⟨b1, b2, b3, b4, b5, b6, b7, b8, b9, b10, b11, b12, b13⟩ := hS'
        have hM := MW_path hS d1 d8
        have hW := fE_WE hM
        have hO := Path_ok hS d1
        obtain ⟨-, -, ⟨T, eT⟩, -, gC, gV, gA, gr, -, -⟩ := Path_fr d1
        have hac := Path_ac hS d1
        have hcc := Path_cc hS d1
        have hwc : WCx NL FL rp BL := ⟨e2, gV, gC, gr, hO, hM.2⟩
        have hLA : ∀ v : Nat, v < AL.length → Lo FL (m.2.1 14 (v : Int)) 0 (AL.getD v 0) := fun v hv => by
          rw [eT]; exact Lo_first (b9 v hv)
        refine ⟨fun w => absurd q1 w, fun _ => ⟨fun w => ⟨⟨by decide, by decide⟩, fun v => absurd q2 v, fun _ => ⟨fun _ => ⟨rfl, hs⟩, fun v => absurd w v⟩⟩, fun w => ⟨fun w2 => ?_, fun w2 => ⟨⟨by decide, by decide⟩, fun v => absurd q2 v, fun _ => ⟨fun v => absurd v w, fun _ => ⟨fun _ => ⟨rfl, hs⟩, fun v => absurd (by omega) v⟩⟩⟩⟩⟩⟩
        obtain ⟨v, rfl⟩ : ∃ v : Nat, x = (v : Int) := ⟨x.toNat, by omega⟩
        have hv : v < AL.length := by omega
        have fin : ∀ (wr' : Ob) (ts : List (List Int)) (N' : List Nat), allC (fE FL) rp AL [] [] ts N' → WOk ts wr' → ts.flatten.length ≤ 1200 → wr'.1 3 = 1 → Sea_letter_47 (v : Int) z o2 o6 o9 wr' (fun r o10' => (0 ≤ r ∧ r < 65536) ∧ wp_M_answer (v : Int) z m (fun r' m' => r = r' ∧ RlW Wx (i + 1) o0 o1 o2 o3 o4 o5 o6 o7 o8 o9 o10' m')) := fun wr' ts N' t1 t2 t3 t4 => by
          have tl := allC_len t1
          refine sp_letter t2 (by omega) (by omega) t3 (allC_ltr t1) hz (fun k1 k2 => ⟨⟨k1, k2⟩, ?_⟩)
          refine sp_manswer hwc hM e1 b8 hLA q2 b7 hv t1 t3 (fun m' f => ⟨rfl, ?_⟩)
          have hT' : RText o0 m' := by
            unfold RText
            rw [f.1 0 (by decide) (by decide) (by decide) (by decide), f.2.1 0 (by decide) (by decide) (by decide)]
            exact b11
          have hR : SRelE NL Cs Q AL o0 (200 * ((i + 1 : Nat) : Int)) (fE FL) rp o6 o7 o8 o9 m' := SRelE_mono (by omega) (SRelE_fr h3' (wxf_x f) hT')
          have hB := Base_of hb.2.1 hb.2.2.1 hb.2.2.2.1.2.2.2.2 (SRelE_S hR)
          exact ⟨NL, Cs, hB.1, hB.2, Or.inr ⟨Q, AL, fE FL, rp, hR, Or.inr ⟨t4, q1, ts, N', t1, t2, t3⟩⟩⟩
        rcases h4 with h4 | ⟨h4, -, ts, N', t1, t2, t3⟩
        · refine ⟨Or.inl h4, fun v => absurd h4 v, fun _ => ⟨AL.length + 1, ?_⟩⟩
          obtain ⟨ts, N', t1, t3⟩ := allC_of hW hO gr hD hcc (fun x hx => by rw [TL_g (gr x hx).2]) AL [] [] hac (by show 10 * tot (fE FL) rp D AL + 0 ≤ 1200; omega) (by show 3 * tot (fE FL) rp D AL + AL.length + 4 * 0 ≤ 368; omega)
          have hcl : chl.length + 1 ≤ 2440 := TeS_N a1 (hac _ (show AL.getD v 0 ∈ AL by rw [List.getD_eq_getElem?_getD, List.getElem?_eq_getElem hv]; exact List.getElem_mem hv)).1
          rw [a7]
          refine sp_wall (AL := AL) hb.2.1 hW hO a1 hcl b8 a8 (fun x hx => (hac x hx).1) AL [] [] ts [] N' _ rfl rfl ⟨rfl, fun j hj => absurd hj (Nat.not_lt_zero _), rfl, fun j hj => absurd hj (Nat.not_lt_zero _)⟩ (fun u hu => absurd hu (Nat.not_lt_zero _)) t1 (fun wr' w1 w2 => fin wr' ts N' t1 w1 ?_ w2)
          have : ([] : List Int).length = 0 := rfl
          omega
        · exact ⟨Or.inr h4, fun _ => fin o10 ts N' t1 t2 t3 h4, fun w => by omega⟩
    · rcases q2 with ⟨-, q2, q3⟩ | ⟨-, q2, q3, -⟩
      · exact no (by omega) (by omega)
      · exact no (by omega) (by omega)
    · rcases q3 with ⟨q3, -⟩ | ⟨q3, -⟩
      · exact no (by omega) (by omega)
      · exact no (by omega) (by omega)
