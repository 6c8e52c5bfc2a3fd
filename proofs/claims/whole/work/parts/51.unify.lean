/-! the search: what the class's join and its look for circles say together -/
def rkO : List Nat → Nat → Nat
  | [], _ => 0
  | c :: l, x => if x = c then l.length + 1 else rkO l x
theorem rkO_le : ∀ (l : List Nat) (x : Nat), rkO l x ≤ l.length
  | [], _ => Nat.le_refl _
  | c :: l, x => by
    show (if x = c then l.length + 1 else rkO l x) ≤ l.length + 1
    have := rkO_le l x
    split <;> omega
theorem COrd_mem {E : List Sy} {rp : Nat → Nat} : ∀ {l : List Nat}, COrd E rp l → ∀ c ∈ l, ∀ k, k < nA E c → rp (ch E c k) ∈ l
  | [], _, c, hc, _, _ => absurd hc (List.not_mem_nil)
  | d :: l, h, c, hc, k, hk => by
    rcases List.mem_cons.mp hc with e | e
    · subst e; exact List.mem_cons_of_mem _ (h.1 k hk)
    · exact List.mem_cons_of_mem _ (COrd_mem h.2 c e k hk)
theorem COrd_rk {E : List Sy} {rp : Nat → Nat} : ∀ {l : List Nat}, COrd E rp l → l.Nodup → ∀ c ∈ l, ∀ k, k < nA E c → rkO l (rp (ch E c k)) < rkO l c
  | [], _, _, c, hc, _, _ => absurd hc (List.not_mem_nil)
  | d :: l, h, hn, c, hc, k, hk => by
    rw [List.nodup_cons] at hn
    show (if rp (ch E c k) = d then l.length + 1 else rkO l (rp (ch E c k))) < (if c = d then l.length + 1 else rkO l c)
    rcases List.mem_cons.mp hc with e | e
    · subst e
      have h1 := h.1 k hk
      rw [if_pos rfl, if_neg (fun z => hn.1 (by rw [← z]; exact h1))]
      have := rkO_le l (rp (ch E c k))
      omega
    · have h1 := COrd_mem h.2 c e k hk
      rw [if_neg (fun z => hn.1 (by rw [← z]; exact h1)), if_neg (fun z => hn.1 (by rw [← z]; exact e))]
      exact COrd_rk h.2 hn.2 c e k hk
theorem acy_of {E : List Sy} {rp0 rp : Nat → Nat} {a0 : Nat} {ord : List Nat} (hold : Acy E (Rf rp0)) (hClo : Clo E (Rf rp)) (hV : VR E rp) (hr : ∀ x, x < E.length → rp x < E.length ∧ rp (rp x) = rp x) (hJR : JR E a0 rp0 rp []) (h1 : rp a0 ∈ ord) (h2 : ∀ c ∈ ord, c < E.length ∧ rp c = c) (h3 : ord.Nodup) (h4 : COrd E rp ord) : Acy E (Rf rp) := by
  have clo : ∀ x, x < E.length → rp x ∈ ord → ∀ k, k < nA E x → rp (ch E x k) ∈ ord ∧ rkO ord (rp (ch E x k)) < rkO ord (rp x) := fun x hx ho k hk => by
    have vx : ¬ isV E x := fun z => by rw [isV_nA z] at hk; omega
    have vr : ¬ isV E (rp x) := fun z => vx (hV x x hx hx rfl z)
    have hc := hClo x (rp x) hx (hr x hx).1 (hr x hx).2.symm vx vr
    have e : nA E (rp x) = nA E x := by unfold nA; rw [hc.1]
    have ec : rp (ch E x k) = rp (ch E (rp x) k) := hc.2 k hk
    rw [ec]
    exact ⟨COrd_mem h4 _ ho k (by omega), COrd_rk h4 h3 _ ho k (by omega)⟩
  have hm := (hJR rp (fun r => r ∈ ord) (fun _ _ _ _ h => h) (fun q hq => absurd hq (List.not_mem_nil)) h1 (fun x hx ho vx k hk => (clo x hx ho k hk).1)).2
  obtain ⟨ρ0, g1, g2⟩ := hold
  refine ⟨fun x => if rp x ∈ ord then rkO ord (rp x) else ord.length + 1 + ρ0 x, fun x y hx hy h => ?_, fun x hx k hk => ?_⟩
  · have h : rp x = rp y := h
    show (if rp x ∈ ord then _ else _) = (if rp y ∈ ord then _ else _)
    by_cases q : rp x ∈ ord
    · rw [if_pos q, if_pos (by rw [← h]; exact q), h]
    · have q2 : rp y ∉ ord := by rw [← h]; exact q
      rw [if_neg q, if_neg q2]
      have ex : rp x = rp0 x := Classical.byContradiction (fun z => q (hm x hx z))
      have ey : rp y = rp0 y := Classical.byContradiction (fun z => q2 (hm y hy z))
      rw [g1 x y hx hy (by show rp0 x = rp0 y; rw [← ex, ← ey, h])]
  · show (if rp (ch E x k) ∈ ord then _ else _) < (if rp x ∈ ord then _ else _)
    by_cases q : rp x ∈ ord
    · have := clo x hx q k hk
      rw [if_pos q, if_pos this.1]
      exact this.2
    · rw [if_neg q]
      split
      · have := rkO_le ord (rp (ch E x k)); omega
      · have := g2 x hx k hk; omega
theorem PM_FS (E : List Sy) (mk : Int → Int) (op cl : Int) : ∀ F : List Nat, PM E mk op cl F ≤ F.length + (F.map (nA E)).sum
  | [] => Nat.le_refl _
  | c :: F => by
    have ih := PM_FS E mk op cl F
    have e : PM E mk op cl (c :: F) = (if mk (c : Int) = op ∨ mk (c : Int) = cl then 0 else 1 + nA E c) + PM E mk op cl F := by unfold PM; rw [List.map_cons, List.sum_cons]
    rw [e, List.map_cons, List.sum_cons, List.length_cons]
    split <;> omega
theorem Pot_FS (E : List Sy) (rp : Nat → Nat) : ∀ F : List Nat, Pot E rp F ≤ (F.map (nA E)).sum
  | [] => Nat.le_refl _
  | c :: F => by
    have ih := Pot_FS E rp F
    have e : Pot E rp (c :: F) = (if rp c = c then nA E c else 0) + Pot E rp F := by unfold Pot; rw [List.map_cons, List.sum_cons]
    rw [e, List.map_cons, List.sum_cons]
    split <;> omega
/-- marks of the class's cells -/
def TeM (b : Int) (te : Ob) : Prop := 0 ≤ te.1 3 ∧ te.1 3 ≤ b ∧ ∀ c, 0 ≤ c → c < 2440 → te.2.1 3 c ≤ te.1 3
theorem TeM_F {b : Int} {te te' : Ob} (h : TeM b te) (f : teF te te') : TeM b te' := by
  unfold TeM
  rw [f.2.1, f.2.2.2.2.1]
  exact h
section UN
variable {NL : List Nat} {E : List Sy}
theorem sp_circ (hW : WE E) (hO : OkE NL E) {F : List Nat} {te : Ob} {rp dp : Nat → Nat} {chl : List Nat} {root : Nat} {b : Int} {K : Int → Ob → Prop} (hT : TeS NL E te rp dp chl) (hFc : FCl E rp F) (hroot : root < E.length) (hrF : rp root ∈ F) (hM : TeM b te) (hb : b ≤ 1000000) (hFl : F.length ≤ 200) (hFs : (F.map (nA E)).sum ≤ 200)
    (hK1 : (∀ ρ, Rk E rp ρ → False) → ∀ te', TeS NL E te' rp dp chl → TeM (b + 2) te' → te'.2.1 2 = te.2.1 2 → K 1 te')
    (hK0 : ∀ ord : List Nat, rp root ∈ ord → (∀ c ∈ ord, c < E.length ∧ rp c = c) → ord.Nodup → COrd E rp ord → ∀ te', TeS NL E te' rp dp chl → TeM (b + 2) te' → te'.2.1 2 = te.2.1 2 → K 0 te') : wp_Ter_isCircular (root : Int) te K := by
  obtain ⟨m0, m1, m2⟩ := hM
  have hE := hT.1.2.1
  refine ⟨⟨by omega, by omega⟩, ⟨by omega, by omega⟩, ?_⟩
  have hT0 : TeS NL E (sI (sI te 3 (te.1 3 + 2)) 2 0) rp dp chl := hT
  refine sp_push (te := sI (sI te 3 (te.1 3 + 2)) 2 0) (l := []) rfl trivial (by decide) (fun p1 p2 => ?_)
  have res : ∀ te', ciF (sI (sI te 3 (te.1 3 + 2)) 2 0) te' → (∀ c, 0 ≤ c → c < 2440 → te'.2.1 3 c ≤ te.1 3 + 2) → TeS NL E te' rp dp chl ∧ TeM (b + 2) te' ∧ te'.2.1 2 = te.2.1 2 := fun te' f hm => by
    have e3 : te'.1 3 = te.1 3 + 2 := f.2.2.1
    exact ⟨TeS_ci hT0 f, ⟨by omega, by omega, fun c c0 c1 => by rw [e3]; exact hm c c0 c1⟩, f.2.2.2.2.2.1⟩
  have hpm := PM_FS E (te.2.1 3) (te.1 3 + 1) (te.1 3 + 2) F
  refine ⟨1 + PM E (te.2.1 3) (te.1 3 + 1) (te.1 3 + 2) F + 1, circ_loop hW hO (root := root) hT0 hFc (by omega) (by omega) (fun hno te' f hm => ?_) (fun ord o1 o2 o3 o4 te' f hm => ?_) _ 0 [(root : Int)] [] _ (ciF_teG (teG_push _ _ _ _)) (fun c c0 c1 => ?_) p1 p2 ⟨fun i hi => ?_, ⟨fun z => by omega, trivial⟩, fun c hc z => ?_, fun c hc => ⟨fun z => ?_, fun z => absurd z (List.not_mem_nil)⟩, fun c hc => absurd hc (List.not_mem_nil), List.nodup_nil, trivial, ⟨fun c hc => by omega, trivial⟩, fun ρ _ => ⟨fun c hc => absurd hc (List.not_mem_nil), trivial⟩, Or.inr (Or.inl List.mem_cons_self)⟩ ?_ (Int.le_refl _) ?_ ?_⟩
  · obtain ⟨r1, r2, r3⟩ := res te' f hm
    exact hK1 hno te' r1 r2 r3
  · obtain ⟨r1, r2, r3⟩ := res te' f hm
    exact hK0 ord o1 o2 o3 o4 te' r1 r2 r3
  · show te.2.1 3 c ≤ te.1 3 + 2
    have := m2 c c0 c1
    omega
  · rw [List.mem_singleton.mp hi]
    have e : (root : Int).toNat = root := by omega
    rw [e]
    exact Or.inl ⟨by omega, hroot, hrF⟩
  · have z : te.2.1 3 (c : Int) = te.1 3 + 1 := z
    have := m2 (c : Int) (by omega) (by omega)
    omega
  · have z : te.2.1 3 (c : Int) = te.1 3 + 2 := z
    have := m2 (c : Int) (by omega) (by omega)
    omega
  · show 1 + PM E (te.2.1 3) (te.1 3 + 1) (te.1 3 + 2) F ≤ 500
    omega
  · show (0 : Int) + ((1 : Nat) : Int) + (PM E (te.2.1 3) (te.1 3 + 1) (te.1 3 + 2) F : Int) ≤ 600
    omega
  · show 1 + PM E (te.2.1 3) (te.1 3 + 1) (te.1 3 + 2) F < _
    omega
/-- the least that makes two terms equal -/
def Lst (E : List Sy) (R0 : Nat → Nat → Prop) (a b : Nat) (rp : Nat → Nat) : Prop := UnX E R0 a b (Rf rp) ∧ Acy E (Rf rp) ∧ ∀ X, UnX E R0 a b X → ∀ x y, x < E.length → y < E.length → rp x = rp y → X x y
theorem sp_unify (hW : WE E) (hO : OkE NL E) {a0 b0 : Nat} {F : List Nat} {te : Ob} {rp dp : Nat → Nat} {chl : List Nat} {b : Int} {Kf Ko : Ob → Prop} (hT : TeS NL E te rp dp chl) (hClo : Clo E (Rf rp)) (hA : Acy E (Rf rp)) (hV : VR E rp) (ha : a0 < E.length) (hb : b0 < E.length) (fa : rp a0 ∈ F) (fb : rp b0 ∈ F) (hFc : FCl E rp F) (hFl : F.length ≤ 200) (hFs : (F.map (nA E)).sum ≤ 200) (hM : TeM b te) (hb6 : b ≤ 1000000)
    (hKf : (∀ X, UnX E (Rf rp) a0 b0 X → Acy E X → False) → ∀ te' rp' dp' chl', TeS NL E te' rp' dp' chl' → Tr (te.2.1 2) chl (te'.2.1 2) chl' → TeM (b + 2) te' → Kf te')
    (hKo : ∀ te' rp' dp' chl', TeS NL E te' rp' dp' chl' → Tr (te.2.1 2) chl (te'.2.1 2) chl' → TeM (b + 2) te' → VR E rp' → Lst E (Rf rp) a0 b0 rp' → Ko te') :
    wp_Ter_join (a0 : Int) (b0 : Int) te (fun r_4 te_3 => ((r_4 = 0 → Kf te_3) ∧ (¬ r_4 = 0 → wp_Ter_isCircular (a0 : Int) te_3 (fun r_6 te_5 => ((r_6 = 0 → Ko te_5) ∧ (¬ r_6 = 0 → Kf te_5)))))) := by
  have hP := Pot_FS E rp F
  refine sp_join hW hO hT hClo hV ha hb fa fb hFc (by omega) (fun hno te' rp' dp' chl' t1 t2 t3 => ⟨fun _ => hKf (fun X hX _ => hno X hX) te' rp' dp' chl' t1 t2 ?_, fun z => absurd rfl z⟩) (fun te' rp' dp' chl' t1 t2 t3 t4 t5 t6 t7 t8 => ⟨fun z => absurd z (by decide), fun _ => ?_⟩)
  · obtain ⟨q1, q2, q3⟩ := TeM_F hM t3
    exact ⟨q1, by omega, q3⟩
  · have hr : ∀ x, x < E.length → rp' x < E.length ∧ rp' (rp' x) = rp' x := fun x hx => ⟨(Fo_r t1.2.1 hx).1, (Fo_r t1.2.1 hx).2.1⟩
    have hrF : rp' a0 ∈ F := by
      have e : rp' a0 = rp' (rp a0) := t5.2.2.1 a0 (rp a0) ha (Fo_r hT.2.1 ha).1 (Fo_r hT.2.1 ha).2.1.symm
      rw [e]
      exact (t7 _ fa).2.1
    refine sp_circ hW hO t1 t7 ha hrF (TeM_F hM t3) hb6 hFl hFs (fun hno te2 s1 s2 s3 => ⟨fun z => absurd z (by decide), fun _ => hKf (fun X hX hAX => ?_) te2 rp' dp' chl' s1 (by rw [s3]; exact t2) s2⟩) (fun ord o1 o2 o3 o4 te2 s1 s2 s3 => ⟨fun _ => hKo te2 rp' dp' chl' s1 (by rw [s3]; exact t2) s2 t4 ⟨t5, acy_of hA t5.2.1 t4 hr t8 o1 o2 o3 o4, t6⟩, fun z => absurd rfl z⟩)
    obtain ⟨ρ, r1, r2⟩ := hAX
    exact hno ρ ⟨fun x y hx hy h => r1 x y hx hy (t6 X hX x y hx hy h), r2⟩
/-- the symbols of a term, counted by the class -/
theorem sp_count (hW : WE E) (hO : OkE NL E) {te : Ob} {rp dp : Nat → Nat} {chl : List Nat} {most : Nat} {n root : Nat} {K : Int → Ob → Prop} (hT : TeS NL E te rp dp chl) (hmost : most ≤ 120) (hroot : root < E.length) (hD : Dp E rp n root) (hK : ∀ te', teG te te' → K ((min (TL E rp n root).length (most + 1) : Nat) : Int) te') : wp_Ter_countSymbols (root : Int) (most : Int) te K := by
  have hE := hT.1.2.1
  have hN := TeS_N hT hroot
  -- the waiting cells with the depths of their terms
  have loop : ∀ (fuel : Nat) (ws : List (Nat × Nat)) (cnt : Nat) (te' : Ob), teG te te' → te'.1 2 = ((ws.map (fun q => (q.1 : Int))).length : Int) → Stk (te'.2.1 5) (ws.map (fun q => (q.1 : Int))) → (∀ q ∈ ws, q.1 < E.length ∧ Dp E rp q.2 q.1) → cnt ≤ most + 1 → ws.length + cnt ≤ 4 * cnt + 1 → most + 1 < fuel + cnt → (∀ te2, teG te te2 → K ((min (cnt + (ws.map (fun q => (TL E rp q.2 q.1).length)).sum) (most + 1) : Nat) : Int) te2) → Ter_countSymbols_12 fuel (most : Int) (cnt : Int) te' K := by
    intro fuel
    induction fuel with
    | zero => intro ws cnt te' _ _ _ _ h1 _ h2; omega
    | succ fuel ih =>
      intro ws cnt te' hG h2 hS hws hcnt hl hf hK'
      refine ⟨fun z => ?_, fun z => ⟨fun z2 => ?_, fun z2 => ?_⟩⟩
      · have e : cnt = most + 1 := by omega
        have := hK' te' hG
        rw [show min (cnt + (ws.map (fun q => (TL E rp q.2 q.1).length)).sum) (most + 1) = cnt by omega] at this
        exact this
      · have hnil : ws = [] := by
          cases ws with
          | nil => rfl
          | cons q ws => rw [List.length_map, List.length_cons] at h2; omega
        subst hnil
        have := hK' te' hG
        rw [show min (cnt + (([] : List (Nat × Nat)).map (fun q => (TL E rp q.2 q.1).length)).sum) (most + 1) = cnt by simp; omega] at this
        exact this
      · cases ws with
        | nil => rw [List.length_map, List.length_nil] at h2; omega
        | cons q ws =>
          obtain ⟨x, d⟩ := q
          obtain ⟨hx, hd⟩ := hws (x, d) List.mem_cons_self
          have hx : x < E.length := hx
          have hd : Dp E rp d x := hd
          rw [List.length_cons] at hl
          rw [List.map_cons] at h2 hS
          refine sp_pop (x := (x : Int)) (l := ws.map (fun q => (q.1 : Int))) h2 hS (by rw [List.length_map]; omega) (fun e2 => ?_)
          have hG1 := teG_trans hG (teG_pop te' (te'.1 2 - 1))
          have hT1 := TeS_G hT hG1
          have hr := Fo_r hT1.2.1 hx
          refine sp_stand (x := x) hT1.2.1 hN ⟨hT1.1.1, hT1.1.2.1⟩ hx ?_
          cases d with
          | zero => exact absurd hd id
          | succ d =>
            have n4 : nA E (rp x) ≤ 4 := by have := (hO (rp x) hr.1).2.1; unfold nA; omega
            refine sp_args hW hO hT1.1 hr.1 e2 hS.2 (by rw [List.length_map]; omega) (fun te5 g1 g2 g3 => ⟨⟨by omega, by omega⟩, ?_⟩)
            have emap : ∀ k, k ≤ nA E (rp x) → pa E (rp x) k (ws.map (fun q => (q.1 : Int))) = (((List.range k).reverse.map (fun j => (ch E (rp x) j, d))) ++ ws).map (fun q => (q.1 : Int)) := by
              intro k
              induction k with
              | zero => intro _; rfl
              | succ k ihk =>
                intro hk
                show (ch E (rp x) k : Int) :: pa E (rp x) k _ = _
                rw [ihk (by omega), List.range_succ, List.reverse_append]
                rfl
            have e := emap (nA E (rp x)) (Nat.le_refl _)
            rw [e] at g2 g3
            have hcnt1 : ((cnt : Int) + 1) = ((cnt + 1 : Nat) : Int) := by omega
            rw [hcnt1]
            have hlen : (((List.range (nA E (rp x))).reverse.map (fun j => (ch E (rp x) j, d))) ++ ws).length = nA E (rp x) + ws.length := by
              rw [List.length_append, List.length_map, List.length_reverse, List.length_range]
            refine ih _ (cnt + 1) te5 (teG_trans hG1 g1) g2 g3 (fun q hq => ?_) (by omega) (by rw [hlen]; omega) (by omega) (fun te2 h2' => ?_)
            · rcases List.mem_append.mp hq with w | w
              · obtain ⟨j, hj, e⟩ := List.mem_map.mp w
                rw [List.mem_reverse] at hj
                have hj := List.mem_range.mp hj
                subst e
                exact ⟨ch_lt hW hr.1 hj, hd j hj⟩
              · exact hws q (List.mem_cons_of_mem _ w)
            · have := hK' te2 h2'
              have es : ((((List.range (nA E (rp x))).reverse.map (fun j => (ch E (rp x) j, d))) ++ ws).map (fun q => (TL E rp q.2 q.1).length)).sum + 1 = (((x, d + 1) :: ws).map (fun q => (TL E rp q.2 q.1).length)).sum := by
                rw [List.map_append, List.sum_append, List.map_cons, List.sum_cons, List.map_map]
                have e1 : (TL E rp (d + 1) x).length = 1 + ((List.range (nA E (rp x))).map (fun k => (TL E rp d (ch E (rp x) k)).length)).sum := by
                  show (((List.range (nA E (rp x))).map (fun k => TL E rp d (ch E (rp x) k))).flatten).length + 1 = _
                  rw [List.length_flatten, List.map_map]
                  show ((List.range (nA E (rp x))).map (fun k => (TL E rp d (ch E (rp x) k)).length)).sum + 1 = _
                  omega
                have e2 : ((List.range (nA E (rp x))).reverse.map ((fun q : Nat × Nat => (TL E rp q.2 q.1).length) ∘ (fun j => (ch E (rp x) j, d)))).sum = ((List.range (nA E (rp x))).map (fun k => (TL E rp d (ch E (rp x) k)).length)).sum := by
                  rw [List.map_reverse, List.sum_reverse]
                  rfl
                rw [e2]
                show _ = (TL E rp (d + 1) x).length + _
                rw [e1]
                omega
              rw [← es] at this
              rw [show cnt + 1 + ((((List.range (nA E (rp x))).reverse.map (fun j => (ch E (rp x) j, d))) ++ ws).map (fun q => (TL E rp q.2 q.1).length)).sum = cnt + (((((List.range (nA E (rp x))).reverse.map (fun j => (ch E (rp x) j, d))) ++ ws).map (fun q => (TL E rp q.2 q.1).length)).sum + 1) by omega]
              exact this
  refine sp_push (te := sI te 2 0) (l := []) rfl trivial (by decide) (fun p1 p2 => ?_)
  refine ⟨most + 3, loop (most + 3) [(root, n)] 0 _ (teG_trans (teG_pop te 0) (teG_push _ _ _ _)) p1 p2 (fun q hq => ?_) (Nat.zero_le _) (by show 1 + 0 ≤ 1; decide) (by omega) (fun te2 h2 => ?_)⟩
  · rw [List.mem_singleton.mp hq]; exact ⟨hroot, hD⟩
  · have := hK te2 h2
    rw [show 0 + (([(root, n)] : List (Nat × Nat)).map (fun q => (TL E rp q.2 q.1).length)).sum = (TL E rp n root).length by simp]
    exact this
end UN
