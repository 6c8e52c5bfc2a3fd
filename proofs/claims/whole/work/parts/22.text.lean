/-! the pure part: characters, the text, type -/
def smallC (c : Int) : Prop := (97 ≤ c ∧ c ≤ 122) ∨ (48 ≤ c ∧ c ≤ 57)
def wordC (c : Int) : Prop := smallC c ∨ (65 ≤ c ∧ c ≤ 90) ∨ c = 95
def signC (c : Int) : Prop := c = 40 ∨ c = 41 ∨ c = 44 ∨ c = 46 ∨ c = 58 ∨ c = 45 ∨ c = 33 ∨ c = 91 ∨ c = 93 ∨ c = 124
def charC (c : Int) : Prop := wordC c ∨ signC c ∨ c = 32
theorem sp_P_isSmall {c : Int} {K : Int → Prop} (h1 : smallC c → K 1) (h0 : ¬ smallC c → K 0) : wp_P_isSmall c K := by
  unfold wp_P_isSmall P_isSmall_12
  unfold smallC at h1 h0
  refine ⟨fun a => ⟨fun b => h0 (by omega), fun b => ⟨fun d => h0 (by omega), fun d => h1 (by omega)⟩⟩, fun a => ⟨fun b => h1 (by omega), fun b => ⟨fun d => h0 (by omega), fun d => ⟨fun e => h0 (by omega), fun e => h1 (by omega)⟩⟩⟩⟩
theorem sp_P_isWord {c : Int} {K : Int → Prop} (h1 : wordC c → K 1) (h0 : ¬ wordC c → K 0) : wp_P_isWordLetter c K := by
  unfold wp_P_isWordLetter P_isWordLetter_19
  unfold wordC smallC at h1 h0
  refine sp_P_isSmall (fun s => ⟨fun _ => h1 (Or.inl s), fun z => absurd z (by decide)⟩) (fun s => ⟨fun z => absurd rfl z, fun _ => ?_⟩)
  unfold smallC at s
  refine ⟨fun a => ⟨fun b => h0 (by omega), fun b => h1 (by omega)⟩, fun a => ⟨fun b => h1 (by omega), fun b => ⟨fun d => h0 (by omega), fun d => h1 (by omega)⟩⟩⟩
theorem sp_M_isSmall {c : Int} {K : Int → Prop} (h1 : smallC c → K 1) (h0 : ¬ smallC c → K 0) : wp_M_isSmall c K := by
  unfold wp_M_isSmall M_isSmall_12
  unfold smallC at h1 h0
  refine ⟨fun a => ⟨fun b => h0 (by omega), fun b => ⟨fun d => h0 (by omega), fun d => h1 (by omega)⟩⟩, fun a => ⟨fun b => h1 (by omega), fun b => ⟨fun d => h0 (by omega), fun d => ⟨fun e => h0 (by omega), fun e => h1 (by omega)⟩⟩⟩⟩
theorem sp_M_isWord {c : Int} {K : Int → Prop} (h1 : wordC c → K 1) (h0 : ¬ wordC c → K 0) : wp_M_isWord c K := by
  unfold wp_M_isWord M_isWord_19
  unfold wordC smallC at h1 h0
  refine sp_M_isSmall (fun s => ⟨fun _ => h1 (Or.inl s), fun z => absurd z (by decide)⟩) (fun s => ⟨fun z => absurd rfl z, fun _ => ?_⟩)
  unfold smallC at s
  refine ⟨fun a => ⟨fun b => h0 (by omega), fun b => h1 (by omega)⟩, fun a => ⟨fun b => h1 (by omega), fun b => ⟨fun d => h0 (by omega), fun d => h1 (by omega)⟩⟩⟩
theorem sp_M_isSign {c : Int} {K : Int → Prop} (h1 : signC c → K 1) (h0 : ¬ signC c → K 0) : wp_M_isSign c K := by
  unfold wp_M_isSign
  unfold signC at h1 h0
  refine ⟨fun _ => h1 (by omega), fun _ => ⟨fun _ => h1 (by omega), fun _ => ⟨fun _ => h1 (by omega), fun _ => ⟨fun _ => h1 (by omega), fun _ => ⟨fun _ => h1 (by omega), fun _ => ⟨fun _ => h1 (by omega), fun _ => ⟨fun _ => h1 (by omega), fun _ => ⟨fun _ => h1 (by omega), fun _ => ⟨fun _ => h1 (by omega), fun _ => ⟨fun _ => h0 (by omega), fun _ => h1 (by omega)⟩⟩⟩⟩⟩⟩⟩⟩⟩⟩
-- the String constant
theorem sgb_s : ∀ n : Nat, n < 11 → signC (([40, 41, 44, 46, 58, 45, 33, 91, 93, 124, 32] : List Int).getD n 0) ∨ (([40, 41, 44, 46, 58, 45, 33, 91, 93, 124, 32] : List Int).getD n 0) = 32 := by
  unfold signC
  decide
theorem sgb_sign {i : Int} (h : 0 ≤ i ∧ i < 11) : signC (sgb i) ∨ sgb i = 32 := sgb_s i.toNat (by omega)
theorem sgb_all {x : Int} (h : signC x ∨ x = 32) : ∃ i : Int, 0 ≤ i ∧ i < 11 ∧ sgb i = x := by
  unfold signC at h
  rcases h with (rfl | rfl | rfl | rfl | rfl | rfl | rfl | rfl | rfl | rfl) | rfl
  · exact ⟨0, by decide, by decide, rfl⟩
  · exact ⟨1, by decide, by decide, rfl⟩
  · exact ⟨2, by decide, by decide, rfl⟩
  · exact ⟨3, by decide, by decide, rfl⟩
  · exact ⟨4, by decide, by decide, rfl⟩
  · exact ⟨5, by decide, by decide, rfl⟩
  · exact ⟨6, by decide, by decide, rfl⟩
  · exact ⟨7, by decide, by decide, rfl⟩
  · exact ⟨8, by decide, by decide, rfl⟩
  · exact ⟨9, by decide, by decide, rfl⟩
  · exact ⟨10, by decide, by decide, rfl⟩
theorem sp_Lat_loop {x : Int} {K : Int → Prop} (hy : ∀ r, 0 ≤ r → r < 11 → sgb r = x → K r) (hn : (∀ j, 0 ≤ j → j < 11 → sgb j ≠ x) → K (-1)) : ∀ (n : Nat) (k : Int), 0 ≤ k → k ≤ 11 → 12 ≤ n + k → (∀ j, 0 ≤ j → j < k → sgb j ≠ x) → Lat_indexOfChar_7 n 11 x k K := by
  intro n
  induction n with
  | zero => intro k h1 h2 h3; omega
  | succ n ih =>
    intro k h1 h2 h3 h4
    refine ⟨fun a => hn (fun j q1 q2 => h4 j q1 (by omega)), fun a => ⟨⟨h1, by omega⟩, fun b => ⟨⟨by omega, by omega⟩, ih (k + 1) (by omega) (by omega) (by omega) (fun j q1 q2 => ?_)⟩, fun b => hy k h1 (by omega) b⟩⟩
    by_cases hj : j = k
    · rw [hj]; exact b
    · exact h4 j q1 (by omega)
theorem sp_Str_indexOf {c : Int} {K : Int → Prop} (hc : 0 ≤ c ∧ c < 256) (h1 : (signC c ∨ c = 32) → ∀ r, 0 ≤ r → K r) (h0 : ¬ (signC c ∨ c = 32) → K (-1)) : wp_Str_indexOf c K := by
  unfold wp_Str_indexOf wp_Str_indexOf2 wp_Str_isLatin1 wp_Str_length wp_Str_coder
  refine ⟨fun z => absurd z (by decide), fun _ => ⟨by decide, ⟨by decide, by decide⟩, ?_⟩⟩
  have e : (11 : Int) / 2 ^ (0 : Int).toNat = 11 := by decide
  rw [e]
  unfold wp_Lat_indexOf wp_Lat_canEncode
  refine ⟨fun z => by omega, fun _ => ⟨fun z => by omega, fun _ => ⟨fun _ => ⟨fun _ => ?_, fun z => absurd (by decide) z⟩, fun z => absurd z (by decide)⟩⟩⟩
  refine ⟨hc, 12, ?_⟩
  have e0 : max (0 : Int) 0 = 0 := by decide
  have e1 : min (11 : Int) 11 = 11 := by decide
  rw [e0, e1]
  refine sp_Lat_loop (fun r q1 q2 q3 => ?_) (fun q => ?_) 12 0 (by decide) (by decide) (by decide) (fun j q1 q2 => by omega)
  · have hs := sgb_sign ⟨q1, q2⟩
    refine h1 ?_ r q1
    by_cases h : c < 128
    · rw [if_pos h] at q3; rw [← q3]; exact hs
    · rw [if_neg h] at q3
      unfold signC at hs; omega
  · refine h0 (fun z => ?_)
    obtain ⟨i, i1, i2, i3⟩ := sgb_all z
    refine q i i1 i2 ?_
    rw [i3, if_pos (by unfold signC at z; omega)]
-- the letters of a row
def bt (y : Nat) (k : Int) : Int := (((y / 2 ^ (8 * k).toNat) &&& 255 : Nat) : Int)
theorem bt_r (y : Nat) (k : Int) : 0 ≤ bt y k ∧ bt y k < 256 := by
  have h : (y / 2 ^ (8 * k).toNat) &&& 255 ≤ 255 := Nat.and_le_right
  unfold bt
  omega
theorem sar_bt {y : Nat} (hy : y < 18446744073709551616) {s : Nat} (hs : s ≤ 56) : sar y s &&& 255 = (y / 2 ^ s) &&& 255 := by
  apply Nat.eq_of_testBit_eq
  intro i
  rw [Nat.testBit_and, Nat.testBit_and]
  by_cases hi : i < 8
  · have e : (sar y s).testBit i = (y / 2 ^ s).testBit i := by
      unfold sar
      rw [BitVec.testBit_toNat, BitVec.getLsbD_sshiftRight, Nat.testBit_div_two_pow]
      have h1 : ¬ 64 ≤ i := by omega
      have h2 : s + i < 64 := by omega
      simp only [h1, h2, decide_false, Bool.not_false, Bool.true_and, if_true]
      rw [BitVec.getLsbD_ofNat]
      simp [h2, Nat.add_comm]
    rw [e]
  · have e : (255 : Nat).testBit i = false := by
      apply Nat.testBit_lt_two_pow
      exact Nat.lt_of_lt_of_le (by decide : 255 < 2 ^ 8) (Nat.pow_le_pow_right (by decide) (by omega))
    rw [e, Bool.and_false, Bool.and_false]
theorem sp_letterOf {y : Nat} {k : Int} {K : Int → Prop} (hk : 0 ≤ k ∧ k < 8) (h : K (bt y k)) : wp_Text_letterOf y k K := by
  have hb := bt_r y k
  unfold wp_Text_letterOf
  refine ⟨⟨by omega, by omega⟩, ⟨by omega, by omega⟩, ?_, ⟨hb.1, by have := hb.2; unfold bt at this; omega⟩, ⟨hb.1, by have := hb.2; unfold bt at this; omega⟩, h⟩
  have := hb.2
  unfold bt at this
  omega
/-- the row has k letters, all of them characters -/
def Let (y : Nat) (k : Int) : Prop := 0 ≤ k ∧ k ≤ 8 ∧ (∀ j, 0 ≤ j → j < k → bt y j ≠ 0 ∧ charC (bt y j)) ∧ (k = 8 ∨ bt y k = 0)
/-- the row's letter k is the first that is none of the characters -/
def Bad (y : Nat) (k : Int) : Prop := 0 ≤ k ∧ k < 8 ∧ (∀ j, 0 ≤ j → j < k → bt y j ≠ 0 ∧ charC (bt y j)) ∧ bt y k ≠ 0 ∧ ¬ charC (bt y k)
theorem Let_Bad {y : Nat} {k j : Int} (h : Let y k) (g : Bad y j) : False := by
  obtain ⟨a1, a2, a3, a4⟩ := h
  obtain ⟨b1, b2, b3, b4, b5⟩ := g
  rcases Int.lt_trichotomy k j with h | h | h
  · rcases a4 with h8 | h0
    · omega
    · exact (b3 k a1 h).1 h0
  · subst h
    rcases a4 with h8 | h0
    · omega
    · exact b4 h0
  · exact b5 (a3 j b1 h).2
theorem Let_uniq {y : Nat} {k j : Int} (h : Let y k) (g : Let y j) : k = j := by
  obtain ⟨a1, a2, a3, a4⟩ := h
  obtain ⟨b1, b2, b3, b4⟩ := g
  rcases Int.lt_trichotomy k j with h | h | h
  · rcases a4 with h8 | h0
    · omega
    · exact absurd h0 (b3 k a1 h).1
  · exact h
  · rcases b4 with h8 | h0
    · omega
    · exact absurd h0 (a3 j b1 h).1
theorem sp_add_2 {y : Nat} {tx : Ob} {K : Int → Ob → Prop} (hbad : ∀ k, Bad y k → K 0 tx) (hend : ∀ k, Let y k → Text_add_49 y k tx K) : ∀ (n : Nat) (k : Int), 0 ≤ k → k ≤ 8 → 9 ≤ n + k → (∀ j, 0 ≤ j → j < k → bt y j ≠ 0 ∧ charC (bt y j)) → Text_add_2 n y k tx K := by
  intro n
  induction n with
  | zero => intro k h1 h2 h3; omega
  | succ n ih =>
    intro k h1 h2 h3 h4
    refine ⟨fun a => hend k ⟨h1, h2, h4, Or.inl (by omega)⟩, fun a => ?_⟩
    refine sp_letterOf ⟨h1, by omega⟩ ⟨fun b => hend k ⟨h1, h2, h4, Or.inr b⟩, fun b => ?_⟩
    have next : charC (bt y k) → Text_add_43 (fun y1 x3 tx' => Text_add_2 n y1 x3 tx' K) y k tx K := fun hc => by
      refine ⟨⟨by omega, by omega⟩, ih (k + 1) (by omega) (by omega) (by omega) (fun j q1 q2 => ?_)⟩
      by_cases hj : j = k
      · rw [hj]; exact ⟨b, hc⟩
      · exact h4 j q1 (by omega)
    refine sp_letterOf ⟨h1, by omega⟩ (sp_P_isWord (fun hw => ⟨fun _ => next (Or.inl hw), fun z => absurd z (by decide)⟩) (fun hw => ⟨fun z => absurd rfl z, fun _ => ?_⟩))
    refine sp_Str_indexOf (bt_r y k) (fun hs r hr => ⟨fun _ => next (Or.inr hs), fun z => absurd hr z⟩) (fun hs => ⟨fun z => absurd z (by decide), fun _ => hbad k ⟨h1, by omega, h4, b, fun z => ?_⟩⟩)
    rcases z with z | z
    · exact hw z
    · exact hs z
/-- the text behind a row's letters -/
def putT (f : Int → Int) (n : Int) (y : Nat) (k : Int) : Int → Int := fun i => if n ≤ i ∧ i < n + k then bt y (i - n) else f i
theorem putT_0 (f : Int → Int) (n : Int) (y : Nat) : putT f n y 0 = f := by
  funext i
  unfold putT
  rw [if_neg (by omega)]
theorem putT_s (f : Int → Int) {n : Int} (y : Nat) {k : Int} (hk : 0 ≤ k) : updI (putT f n y k) (n + k) (bt y k) = putT f n y (k + 1) := by
  funext i
  unfold updI putT
  by_cases h : i = n + k
  · subst h
    rw [if_pos rfl, if_pos (by omega)]
    congr 1
    omega
  · rw [if_neg h]
    by_cases h2 : n ≤ i ∧ i < n + k
    · rw [if_pos h2, if_pos (by omega)]
    · rw [if_neg h2, if_neg (by omega)]
/-- register 0 and array 0 set anew -/
def sT (o : Ob) (v : Int) (F : Int → Int) : Ob := (fun j => if j = 0 then v else o.1 j, fun j => if j = 0 then F else o.2.1 j, o.2.2)
theorem sT_self (o : Ob) : sT o (o.1 0) (o.2.1 0) = o := by
  unfold sT
  refine Prod.ext ?_ (Prod.ext ?_ rfl)
  · funext j
    by_cases h : j = 0
    · subst h; rfl
    · exact if_neg h
  · funext j
    by_cases h : j = 0
    · subst h; rfl
    · exact if_neg h
theorem sT_A (o : Ob) (v : Int) (F : Int → Int) (i x : Int) : sA (sT o v F) 0 i x = sT o v (updI F i x) := by
  unfold sT sA
  refine Prod.ext rfl (Prod.ext ?_ rfl)
  funext j
  by_cases h : j = 0
  · subst h; rfl
  · show (if j = 0 then _ else (if j = 0 then F else o.2.1 j)) = (if j = 0 then _ else o.2.1 j)
    rw [if_neg h, if_neg h, if_neg h]
theorem sT_I (o : Ob) (v : Int) (F : Int → Int) (x : Int) : sI (sT o v F) 0 x = sT o x F := by
  unfold sT sI
  refine Prod.ext ?_ rfl
  funext j
  by_cases h : j = 0
  · subst h; rfl
  · show (if j = 0 then _ else (if j = 0 then v else o.1 j)) = (if j = 0 then _ else o.1 j)
    rw [if_neg h, if_neg h, if_neg h]
theorem sp_add_66 {y : Nat} {x3 : Int} {tx : Ob} {K : Int → Ob → Prop} (h3 : 0 ≤ x3 ∧ x3 ≤ 8) (ht : 0 ≤ tx.1 0 ∧ tx.1 0 + x3 ≤ 240) (hend : K 1 (sT tx (tx.1 0 + x3) (putT (tx.2.1 0) (tx.1 0) y x3))) : ∀ (n : Nat) (k : Int), 0 ≤ k → k ≤ x3 → x3 + 1 ≤ n + k → Text_add_66 n y x3 k (sT tx (tx.1 0) (putT (tx.2.1 0) (tx.1 0) y k)) K := by
  intro n
  induction n with
  | zero => intro k h1 h2 h3; omega
  | succ n ih =>
    intro k h1 h2 h4
    refine ⟨fun a => ?_, fun a => ⟨⟨?_, ?_⟩, ?_⟩⟩
    · have hk : k = x3 := by omega
      subst hk
      refine ⟨⟨?_, ?_⟩, ?_⟩
      · show (-2147483648 : Int) ≤ tx.1 0 + k; omega
      · show tx.1 0 + k ≤ 2147483647; omega
      · show K 1 (sI (sT tx (tx.1 0) (putT (tx.2.1 0) (tx.1 0) y k)) 0 (tx.1 0 + k))
        rw [sT_I]; exact hend
    · show (-2147483648 : Int) ≤ tx.1 0 + k; omega
    · show tx.1 0 + k ≤ 2147483647; omega
    · have hb := bt_r y k
      refine sp_letterOf ⟨h1, by omega⟩ ⟨⟨?_, ?_⟩, ⟨hb.1, by omega⟩, ⟨by omega, by omega⟩, ?_⟩
      · show 0 ≤ tx.1 0 + k; omega
      · show tx.1 0 + k < 240; omega
      · show Text_add_66 n y x3 (k + 1) (sA (sT tx (tx.1 0) (putT (tx.2.1 0) (tx.1 0) y k)) 0 (tx.1 0 + k) (bt y k)) K
        rw [sT_A, putT_s _ _ h1]
        exact ih (k + 1) (by omega) (by omega) (by omega)
/-- type, of the class -/
theorem sp_P_type {y : Nat} {tx : Ob} {K : Int → Ob → Prop} (ht : 0 ≤ tx.1 0 ∧ tx.1 0 ≤ 240) (hbad : ∀ k, Bad y k → K 0 tx) (hfull : ∀ k, Let y k → 240 < tx.1 0 + k → K 0 tx) (hok : ∀ k, Let y k → tx.1 0 + k ≤ 240 → K 1 (sT tx (tx.1 0 + k) (putT (tx.2.1 0) (tx.1 0) y k))) : wp_P_type y tx K := by
  unfold wp_P_type wp_Text_add
  refine ⟨9, sp_add_2 (fun k hk => ⟨Or.inl rfl, hbad k hk⟩) (fun k hk => ?_) 9 0 (by decide) (by decide) (by decide) (fun j q1 q2 => by omega)⟩
  have hk1 := hk.1
  have hk2 := hk.2.1
  refine ⟨⟨by omega, by omega⟩, fun a => ⟨k.toNat + 1, ?_⟩, fun a => ⟨Or.inl rfl, hfull k hk (by omega)⟩⟩
  have h := sp_add_66 (y := y) (x3 := k) (tx := tx) (K := fun r tx' => (r = 0 ∨ r = 1) ∧ K r tx') ⟨hk1, hk2⟩ ⟨ht.1, a⟩ ⟨Or.inr rfl, hok k hk a⟩ (k.toNat + 1) 0 (by decide) hk1 (by omega)
  rw [putT_0, sT_self] at h
  exact h
theorem sp_M_type_2 {y : Nat} (hy : y < 18446744073709551616) {m : Ob} {K : Int → Ob → Prop} (hbad : ∀ k, Bad y k → K 0 m) (hend : ∀ k, Let y k → M_type_68 y k m K) : ∀ (n : Nat) (k : Int), 0 ≤ k → k ≤ 8 → 9 ≤ n + k → (∀ j, 0 ≤ j → j < k → bt y j ≠ 0 ∧ charC (bt y j)) → M_type_2 n y k m K := by
  intro n
  induction n with
  | zero => intro k h1 h2 h3; omega
  | succ n ih =>
    intro k h1 h2 h3 h4
    refine ⟨fun a => hend k ⟨h1, h2, h4, Or.inl (by omega)⟩, fun a => ⟨⟨by omega, by omega⟩, ⟨by omega, by omega⟩, ?_⟩⟩
    have e : sar y (8 * k).toNat &&& 255 = (y / 2 ^ (8 * k).toNat) &&& 255 := sar_bt hy (by omega)
    have hb := bt_r y k
    have hbt : bt y k = (((y / 2 ^ (8 * k).toNat) &&& 255 : Nat) : Int) := rfl
    rw [e]
    refine ⟨fun b => hend k ⟨h1, h2, h4, Or.inr (by rw [hbt, b]; rfl)⟩, fun b => ⟨⟨by omega, by omega⟩, ⟨by omega, by omega⟩, by omega, ?_⟩⟩
    rw [← hbt]
    have b0 : bt y k ≠ 0 := by rw [hbt]; omega
    have next : charC (bt y k) → M_type_61 (fun y1 x3 m' => M_type_2 n y1 x3 m' K) y k m K := fun hc => by
      refine ⟨⟨by omega, by omega⟩, ih (k + 1) (by omega) (by omega) (by omega) (fun j q1 q2 => ?_)⟩
      by_cases hj : j = k
      · rw [hj]; exact ⟨b0, hc⟩
      · exact h4 j q1 (by omega)
    refine sp_M_isWord (fun hw => ⟨fun _ => next (Or.inl hw), fun z => absurd z (by decide)⟩) (fun hw => ⟨fun z => absurd rfl z, fun _ => ?_⟩)
    refine sp_M_isSign (fun hs => ⟨fun _ => next (Or.inr (Or.inl hs)), fun z => absurd z (by decide)⟩) (fun hs => ⟨fun z => absurd rfl z, fun _ => ⟨fun d => next (Or.inr (Or.inr d)), fun d => hbad k ⟨h1, by omega, h4, b0, fun z => ?_⟩⟩⟩)
    rcases z with z | z | z
    · exact hw z
    · exact hs z
    · exact d z
theorem sp_M_type_85 {y : Nat} (hy : y < 18446744073709551616) {x3 n0 : Int} {m : Ob} {F : Int → Int} {K : Int → Ob → Prop} (h3 : 0 ≤ x3 ∧ x3 ≤ 8) (ht : 0 ≤ n0 ∧ n0 + x3 ≤ 240) (hend : K 1 (sT m (n0 + x3) (putT F n0 y x3))) : ∀ (n : Nat) (k : Int), 0 ≤ k → k ≤ x3 → x3 + 1 ≤ n + k → M_type_85 n y x3 k (sT m (n0 + k) (putT F n0 y k)) K := by
  intro n
  induction n with
  | zero => intro k h1 h2 h3; omega
  | succ n ih =>
    intro k h1 h2 h4
    refine ⟨fun a => ?_, fun a => ⟨⟨by omega, by omega⟩, ⟨by omega, by omega⟩, ?_⟩⟩
    · have hk : k = x3 := by omega
      subst hk
      exact hend
    · have e : sar y (8 * k).toNat &&& 255 = (y / 2 ^ (8 * k).toNat) &&& 255 := sar_bt hy (by omega)
      have hb := bt_r y k
      have hbt : bt y k = (((y / 2 ^ (8 * k).toNat) &&& 255 : Nat) : Int) := rfl
      rw [e, ← hbt]
      refine ⟨by omega, ⟨?_, ?_⟩, ⟨?_, ?_⟩, ⟨by omega, by omega⟩, ?_⟩
      · show 0 ≤ n0 + k; omega
      · show n0 + k < 240; omega
      · show (-2147483648 : Int) ≤ n0 + k + 1; omega
      · show n0 + k + 1 ≤ 2147483647; omega
      · show M_type_85 n y x3 (k + 1) (sI (sA (sT m (n0 + k) (putT F n0 y k)) 0 (n0 + k) (bt y k)) 0 (n0 + k + 1)) K
        rw [sT_A, sT_I, putT_s _ _ h1, Int.add_assoc]
        exact ih (k + 1) (by omega) (by omega) (by omega)
/-- type, of the reference -/
theorem sp_M_type {y : Nat} (hy : y < 18446744073709551616) {m : Ob} {K : Int → Ob → Prop} (ht : 0 ≤ m.1 0 ∧ m.1 0 ≤ 240) (hbad : ∀ k, Bad y k → K 0 m) (hfull : ∀ k, Let y k → 240 < m.1 0 + k → K 0 m) (hok : ∀ k, Let y k → m.1 0 + k ≤ 240 → K 1 (sT m (m.1 0 + k) (putT (m.2.1 0) (m.1 0) y k))) : wp_M_type y m K := by
  unfold wp_M_type
  refine ⟨9, sp_M_type_2 hy hbad (fun k hk => ?_) 9 0 (by decide) (by decide) (by decide) (fun j q1 q2 => by omega)⟩
  have hk1 := hk.1
  have hk2 := hk.2.1
  refine ⟨⟨by omega, by omega⟩, fun a => ⟨k.toNat + 1, ?_⟩, fun a => hfull k hk (by omega)⟩
  have h := sp_M_type_85 hy (y := y) (x3 := k) (n0 := m.1 0) (m := m) (F := m.2.1 0) (K := K) ⟨hk1, hk2⟩ ⟨ht.1, a⟩ (hok k hk a) (k.toNat + 1) 0 (by decide) hk1 (by omega)
  rw [putT_0, Int.add_zero, sT_self] at h
  exact h
/-- the texts agree -/
def RText (tx m : Ob) : Prop := tx.1 0 = m.1 0 ∧ 0 ≤ tx.1 0 ∧ tx.1 0 ≤ 240 ∧ ∀ i, 0 ≤ i → i < tx.1 0 → tx.2.1 0 i = m.2.1 0 i ∧ charC (m.2.1 0 i)
theorem RText_put {tx m : Ob} {y : Nat} {k : Int} (h : RText tx m) (hk : Let y k) (h2 : tx.1 0 + k ≤ 240) : RText (sT tx (tx.1 0 + k) (putT (tx.2.1 0) (tx.1 0) y k)) (sT m (m.1 0 + k) (putT (m.2.1 0) (m.1 0) y k)) := by
  obtain ⟨e1, h3, h4, h5⟩ := h
  have hk1 := hk.1
  refine ⟨?_, ?_, ?_, fun i q1 q2 => ?_⟩
  · show tx.1 0 + k = m.1 0 + k; omega
  · show 0 ≤ tx.1 0 + k; omega
  · show tx.1 0 + k ≤ 240; omega
  · have q2 : i < tx.1 0 + k := q2
    show putT (tx.2.1 0) (tx.1 0) y k i = putT (m.2.1 0) (m.1 0) y k i ∧ charC (putT (m.2.1 0) (m.1 0) y k i)
    rw [← e1]
    unfold putT
    by_cases hi : tx.1 0 ≤ i
    · rw [if_pos ⟨hi, q2⟩, if_pos ⟨hi, q2⟩]
      exact ⟨rfl, (hk.2.2.1 (i - tx.1 0) (by omega) (by omega)).2⟩
    · rw [if_neg (fun z => hi z.1), if_neg (fun z => hi z.1)]
      exact h5 i q1 (by omega)
