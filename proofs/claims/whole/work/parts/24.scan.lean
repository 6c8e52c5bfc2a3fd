/-! the pure part: Tokens.scan -/
theorem charC_r {c : Int} (h : charC c) : 0 ≤ c ∧ c < 256 := by
  unfold charC wordC smallC signC at h
  omega
theorem sp_Text_at {x : Int} {tx : Ob} {K : Int → Prop} (hn : tx.1 0 ≤ 240) (ht : ∀ i, 0 ≤ i → i < tx.1 0 → charC (tx.2.1 0 i)) (h1 : x < 0 → K 32) (h2 : tx.1 0 ≤ x → K 32) (h3 : 0 ≤ x → x < tx.1 0 → K (tx.2.1 0 x)) : wp_Text_at x tx K := by
  refine ⟨h1, fun a => ⟨h2, fun b => ⟨⟨by omega, by omega⟩, ?_, h3 (by omega) (by omega)⟩⟩⟩
  have := charC_r (ht x (by omega) (by omega))
  omega
theorem sp_Tok_put {k0 p0 : Int} {w0 : Nat} {tk : Ob} {K : Ob → Prop} (hc : 0 ≤ tk.1 0 ∧ tk.1 0 < 241) (hk : 0 ≤ k0 ∧ k0 < 65536) (h : K (sI (sL (sA (sA tk 0 (tk.1 0) k0) 1 (tk.1 0) p0) 0 (tk.1 0) w0) 0 (tk.1 0 + 1))) : wp_Tok_put k0 p0 w0 tk K := by
  refine ⟨fun a => by omega, fun a => ⟨hc, hk, hc, hc, ⟨by omega, by omega⟩, h⟩⟩
theorem shl_lt {c : Int} (hc : 0 ≤ c ∧ c < 256) {s : Nat} (hs : s ≤ 56) : c.toNat * 2 ^ s < 18446744073709551616 := by
  have h1 : c.toNat < 2 ^ 8 := by omega
  have h2 : c.toNat * 2 ^ s < 2 ^ 8 * 2 ^ s := Nat.mul_lt_mul_of_pos_right h1 (Nat.pow_pos (by decide))
  rw [← Nat.pow_add] at h2
  exact Nat.lt_of_lt_of_le h2 (Nat.pow_le_pow_right (by decide) (show 8 + s ≤ 64 by omega))
section SCAN
variable {tx : Ob} {K : Ob → Prop}
theorem sp_scan (hn : 0 ≤ tx.1 0 ∧ tx.1 0 ≤ 240) (ht : ∀ i, 0 ≤ i → i < tx.1 0 → charC (tx.2.1 0 i)) (hend : ∀ tk, TKS (tx.2.1 0) (tx.1 0) (tk.2.1 0) (tk.2.1 1) (tk.2.2.2 0) (tk.1 0) → Tok_scan_155 tx tk K) :
    ∀ (n : Nat) (q : Int) (tk : Ob), 0 ≤ q → q ≤ tx.1 0 → tx.1 0 + 1 ≤ n + q → TKS (tx.2.1 0) q (tk.2.1 0) (tk.2.1 1) (tk.2.2.2 0) (tk.1 0) → Tok_scan_7 n q tx tk K := by
  intro n
  induction n with
  | zero => intro q tk h1 h2 h3; omega
  | succ n ih =>
    intro q tk h1 h2 h3 hT
    have hT0 := hT
    obtain ⟨en, g1, g2, g3, g4, g5, g6⟩ := hT0
    refine ⟨fun a => hend tk (by rw [show tx.1 0 = q by omega]; exact hT), fun a => ⟨⟨by omega, by omega⟩, ?_⟩⟩
    have next : ∀ tk' : Ob, TKS (tx.2.1 0) (q + 1) (tk'.2.1 0) (tk'.2.1 1) (tk'.2.2.2 0) (tk'.1 0) → Tok_scan_149 (fun x2 tk' => Tok_scan_7 n x2 tx tk' K) q tx tk' K := fun tk' h => ⟨⟨by omega, by omega⟩, ih (q + 1) tk' (by omega) (by omega) (by omega) h⟩
    have hq : charC (tx.2.1 0 q) := ht q h1 (by omega)
    have hqr := charC_r hq
    have cnt : 0 ≤ tk.1 0 ∧ tk.1 0 < 241 := ⟨g5, by omega⟩
    have puts : ∀ (k0 : Int) (w0 : Nat), 0 ≤ k0 ∧ k0 < 65536 → (wordC (tx.2.1 0 (q - 1)) → 1 ≤ q → ¬ wordC (tx.2.1 0 q)) ∧ (tx.2.1 0 (q - 1) = 58 → 1 ≤ q → tx.2.1 0 q ≠ 45) → tokAt (tx.2.1 0) (q + 1) q (q + 1) k0 w0 → wp_Tok_put k0 q w0 tk (fun tk' => Tok_scan_149 (fun x2 tk' => Tok_scan_7 n x2 tx tk' K) q tx tk' K) := fun k0 w0 hk hq0 hn0 => sp_Tok_put cnt hk (next _ (TKS_put hT hq0 hn0))
    have main : ∀ b : Int, ((q = 0 ∧ b = 32) ∨ (1 ≤ q ∧ b = tx.2.1 0 (q - 1))) → wp_Text_at q tx (fun r_5 => wp_P_isWordLetter r_5 (fun r_6 => ((r_6 = 0 → Tok_scan_55 (fun x2 tk' => Tok_scan_7 n x2 tx tk' K) q b r_5 tx tk K) ∧ (¬ r_6 = 0 → wp_P_isWordLetter b (fun r_13 => ((r_13 = 0 → Tok_scan_55 (fun x2 tk' => Tok_scan_7 n x2 tx tk' K) q b r_5 tx tk K) ∧ (¬ r_13 = 0 → wp_Tok_lengthenWord r_5 q tk (fun tk_14 => Tok_scan_149 (fun x2 tk' => Tok_scan_7 n x2 tx tk' K) q tx tk_14 K)))))))) := by
      intro b hb
      refine sp_Text_at hn.2 ht (fun z => by omega) (fun z => by omega) (fun _ _ => ?_)
      have s55 : (wordC (tx.2.1 0 q) → ¬ wordC b) → Tok_scan_55 (fun x2 tk' => Tok_scan_7 n x2 tx tk' K) q b (tx.2.1 0 q) tx tk K := by
        intro hwb
        have hnw : wordC (tx.2.1 0 (q - 1)) → 1 ≤ q → ¬ wordC (tx.2.1 0 q) := fun z1 z2 z3 => by
          rcases hb with ⟨e1, e2⟩ | ⟨e1, e2⟩
          · omega
          · exact hwb z3 (by rw [e2]; exact z1)
        refine sp_P_isWord (fun hw => ⟨fun z => absurd z (by decide), fun _ => ?_⟩) (fun hw => ⟨fun _ => ⟨fun c45 => ?_, fun c45 => ⟨fun b58 => ?_, fun b58 => ?_⟩⟩, fun z => absurd rfl z⟩)
        · have hwn := wordC_n hw
          have tok : ∀ k0 : Int, (smallC (tx.2.1 0 q) → k0 = 97) → (¬ smallC (tx.2.1 0 q) → k0 = 65) → tokAt (tx.2.1 0) (q + 1) q (q + 1) k0 ((tx.2.1 0 q).toNat) := fun k0 ka kb => by
            refine ⟨by omega, by omega, Or.inl ⟨hw, fun i i1 i2 => by rw [show i = q by omega]; exact hw, fun z => by omega, Or.inl ⟨by omega, ka, kb, ?_⟩⟩⟩
            rw [show (q + 1 - q).toNat = 1 by omega]
            show _ = 0 ||| ((tx.2.1 0 (q + ((0 : Nat) : Int))).toNat * 2 ^ (8 * 0))
            simp
          refine sp_P_isSmall (fun hs => ⟨fun z => absurd z (by decide), fun _ => ⟨hwn.2.2.2.2.1, puts 97 _ (by decide) ⟨hnw, fun _ _ => hwn.2.2.1⟩ (tok 97 (fun _ => rfl) (fun z => absurd hs z))⟩⟩) (fun hs => ⟨fun _ => ⟨hwn.2.2.2.2.1, puts 65 _ (by decide) ⟨hnw, fun _ _ => hwn.2.2.1⟩ (tok 65 (fun z => absurd z hs) (fun _ => rfl))⟩, fun z => absurd rfl z⟩)
        · refine ⟨fun c58 => ?_, fun c58 => ⟨fun _ => ⟨fun c32 => ?_, fun c32 => ?_⟩, fun z => absurd z c45⟩⟩
          · exact puts 63 0 (by decide) ⟨hnw, fun _ _ => c45⟩ ⟨by omega, by omega, Or.inr (Or.inr (Or.inl ⟨c58, rfl, rfl, fun z => by omega⟩))⟩
          · exact next tk (TKS_blank hT c32)
          · refine puts _ 0 (by omega) ⟨hnw, fun _ _ => c45⟩ ⟨by omega, by omega, Or.inr (Or.inr (Or.inr (Or.inr ⟨?_, rfl, rfl⟩)))⟩
            rcases hq with z | z | z
            · exact absurd z hw
            · unfold signC at z
              unfold sign8
              omega
            · exact absurd z c32
        · have h58 : ¬ tx.2.1 0 q = 58 := by omega
          refine ⟨fun z => absurd z h58, fun _ => ⟨fun z => absurd c45 z, fun _ => ?_⟩⟩
          refine puts 63 0 (by decide) ⟨hnw, fun z1 z2 => ?_⟩ ⟨by omega, by omega, Or.inr (Or.inr (Or.inr (Or.inl ⟨c45, rfl, rfl⟩)))⟩
          rcases hb with ⟨e1, e2⟩ | ⟨e1, e2⟩
          · omega
          · exact absurd (e2.trans z1) b58
        · rcases hb with ⟨e1, e2⟩ | ⟨e1, e2⟩
          · omega
          · have e58 : tx.2.1 0 (q - 1) = 58 := by omega
            obtain ⟨l1, l2, l3⟩ := TKS_last hT e1 (by omega)
            have hp : tx.2.1 0 (tk.2.1 1 (tk.1 0 - 1)) = 58 ∧ q = tk.2.1 1 (tk.1 0 - 1) + 1 := by
              obtain ⟨a1, a2, a3⟩ := l2
              rcases a3 with ⟨w1, w2, w3, w4⟩ | ⟨s1, s2, s3, s4⟩ | ⟨s1, s2, s3, s4⟩ | ⟨s1, s2, s3⟩ | ⟨s1, s2, s3⟩
              · have := w2 (q - 1) (by omega) (by omega)
                exact absurd e58 (wordC_n this).2.1
              · rw [show tk.2.1 1 (tk.1 0 - 1) + 1 = q - 1 by omega] at s3
                omega
              · exact ⟨s1, s2⟩
              · rw [show tk.2.1 1 (tk.1 0 - 1) = q - 1 by omega] at s1
                omega
              · rw [show tk.2.1 1 (tk.1 0 - 1) = q - 1 by omega] at s1
                unfold sign8 at s1
                omega
            refine ⟨fun z => by omega, fun _ => ⟨⟨by omega, by omega⟩, ⟨by omega, by omega⟩, by decide, ?_⟩⟩
            refine next _ ?_
            have hz := l3 58 (tk.2.1 1 (tk.1 0 - 1)) (tk.2.2.2 0 (tk.1 0 - 1)) rfl ⟨by omega, by omega, Or.inr (Or.inl ⟨hp.1, by omega, by rw [show tk.2.1 1 (tk.1 0 - 1) + 1 = q by omega]; exact c45, rfl⟩)⟩
            have ew : updN (tk.2.2.2 0) (tk.1 0 - 1) (tk.2.2.2 0 (tk.1 0 - 1)) = tk.2.2.2 0 := by
              funext j
              unfold updN
              split
              · rename_i hj; rw [hj]
              · rfl
            rw [ew] at hz
            exact hz
      refine sp_P_isWord (fun hw => ⟨fun z => absurd z (by decide), fun _ => ?_⟩) (fun hw => ⟨fun _ => s55 (fun z => absurd z hw), fun z => absurd rfl z⟩)
      refine sp_P_isWord (fun hwb => ⟨fun z => absurd z (by decide), fun _ => ?_⟩) (fun hwb => ⟨fun _ => s55 (fun _ => hwb), fun z => absurd rfl z⟩)
      have hwn := wordC_n hw
      rcases hb with ⟨e1, e2⟩ | ⟨e1, e2⟩
      · rw [e2] at hwb
        exact absurd rfl (wordC_n hwb).1
      · rw [e2] at hwb
        obtain ⟨l1, l2, l3⟩ := TKS_last hT e1 (wordC_n hwb).1
        have hp : wordC (tx.2.1 0 (tk.2.1 1 (tk.1 0 - 1))) ∧ (∀ i, tk.2.1 1 (tk.1 0 - 1) ≤ i → i < q → wordC (tx.2.1 0 i)) ∧ ((q - tk.2.1 1 (tk.1 0 - 1) ≤ 8 ∧ (smallC (tx.2.1 0 (tk.2.1 1 (tk.1 0 - 1))) → tk.2.1 0 (tk.1 0 - 1) = 97) ∧ (¬ smallC (tx.2.1 0 (tk.2.1 1 (tk.1 0 - 1))) → tk.2.1 0 (tk.1 0 - 1) = 65) ∧ tk.2.2.2 0 (tk.1 0 - 1) = packN (tx.2.1 0) (tk.2.1 1 (tk.1 0 - 1)) (q - tk.2.1 1 (tk.1 0 - 1)).toNat) ∨ (8 < q - tk.2.1 1 (tk.1 0 - 1) ∧ tk.2.1 0 (tk.1 0 - 1) = 63)) := by
          obtain ⟨a1, a2, a3⟩ := l2
          rcases a3 with ⟨w1, w2, w3, w4⟩ | ⟨s1, s2, s3, s4⟩ | ⟨s1, s2, s3, s4⟩ | ⟨s1, s2, s3⟩ | ⟨s1, s2, s3⟩
          · exact ⟨w1, w2, w4⟩
          · rw [show tk.2.1 1 (tk.1 0 - 1) + 1 = q - 1 by omega] at s3
            exact absurd s3 (wordC_n hwb).2.2.1
          · rw [show tk.2.1 1 (tk.1 0 - 1) = q - 1 by omega] at s1
            exact absurd s1 (wordC_n hwb).2.1
          · rw [show tk.2.1 1 (tk.1 0 - 1) = q - 1 by omega] at s1
            exact absurd s1 (wordC_n hwb).2.2.1
          · rw [show tk.2.1 1 (tk.1 0 - 1) = q - 1 by omega] at s1
            exact absurd s1 (wordC_n hwb).2.2.2.1
        have hpl := l2.1
        have hpl0 : 0 ≤ tk.2.1 1 (tk.1 0 - 1) := by
          have a1 := (g2 (tk.1 0 - 1) (by omega) (by omega)).1
          have key : ∀ (j : Nat), (j : Int) ≤ tk.1 0 → 0 ≤ eb en j := by
            intro j
            induction j with
            | zero => intro _; unfold eb; simp
            | succ j ihj =>
              intro hj
              have b1 := (g1 j (by omega) (by omega)).1
              have b2 := (g2 j (by omega) (by omega)).1
              have b3 := ihj (by omega)
              unfold eb
              rw [if_neg (by omega), show ((j + 1 : Nat) : Int) - 1 = (j : Int) by omega]
              omega
          have := key (tk.1 0 - 1).toNat (by omega)
          rw [Int.toNat_of_nonneg (by omega)] at this
          omega
        have hwall : ∀ i, tk.2.1 1 (tk.1 0 - 1) ≤ i → i < q + 1 → wordC (tx.2.1 0 i) := fun i i1 i2 => by
          by_cases hi : i = q
          · rw [hi]; exact hw
          · exact hp.2.1 i i1 (by omega)
        refine ⟨⟨by omega, by omega⟩, fun _ => ⟨⟨by omega, by omega⟩, ⟨by omega, by omega⟩, fun l8 => ?_, fun l8 => ?_⟩, fun z => by omega⟩
        · refine ⟨⟨by omega, by omega⟩, by decide, next _ ?_⟩
          have hz := l3 63 (tk.2.1 1 (tk.1 0 - 1)) (tk.2.2.2 0 (tk.1 0 - 1)) rfl ⟨by omega, by omega, Or.inl ⟨hp.1, hwall, fun z => by omega, Or.inr ⟨by omega, rfl⟩⟩⟩
          have ew : updN (tk.2.2.2 0) (tk.1 0 - 1) (tk.2.2.2 0 (tk.1 0 - 1)) = tk.2.2.2 0 := by
            funext j
            unfold updN
            split
            · rename_i hj; rw [hj]
            · rfl
          rw [ew] at hz
          exact hz
        · rcases hp.2.2 with ⟨p1, p2, p3, p4⟩ | ⟨p1, p2⟩
          · refine ⟨⟨by omega, by omega⟩, hwn.2.2.2.2.1, ⟨by omega, by omega⟩, ⟨by omega, by omega⟩, shl_lt ⟨hwn.2.2.2.2.1, hwn.2.2.2.2.2⟩ (by omega), ⟨by omega, by omega⟩, next _ ?_⟩
            have hz := l3 (tk.2.1 0 (tk.1 0 - 1)) (tk.2.1 1 (tk.1 0 - 1)) ((tk.2.2.2 0 (tk.1 0 - 1)) ||| ((tx.2.1 0 q).toNat * 2 ^ (8 * (q - tk.2.1 1 (tk.1 0 - 1))).toNat)) rfl ⟨by omega, by omega, Or.inl ⟨hp.1, hwall, fun z => by omega, Or.inl ⟨by omega, p2, p3, ?_⟩⟩⟩
            · have ew : updI (tk.2.1 0) (tk.1 0 - 1) (tk.2.1 0 (tk.1 0 - 1)) = tk.2.1 0 := by
                funext j
                unfold updI
                split
                · rename_i hj; rw [hj]
                · rfl
              rw [ew] at hz
              exact hz
            · rw [show (q + 1 - tk.2.1 1 (tk.1 0 - 1)).toNat = (q - tk.2.1 1 (tk.1 0 - 1)).toNat + 1 by omega]
              show _ = packN (tx.2.1 0) (tk.2.1 1 (tk.1 0 - 1)) (q - tk.2.1 1 (tk.1 0 - 1)).toNat ||| ((tx.2.1 0 (tk.2.1 1 (tk.1 0 - 1) + (((q - tk.2.1 1 (tk.1 0 - 1)).toNat : Nat) : Int))).toNat * 2 ^ (8 * (q - tk.2.1 1 (tk.1 0 - 1)).toNat))
              rw [p4, show tk.2.1 1 (tk.1 0 - 1) + (((q - tk.2.1 1 (tk.1 0 - 1)).toNat : Nat) : Int) = q by omega, show (8 * (q - tk.2.1 1 (tk.1 0 - 1))).toNat = 8 * (q - tk.2.1 1 (tk.1 0 - 1)).toNat by omega]
          · omega
    exact sp_Text_at hn.2 ht (fun z => main 32 (Or.inl ⟨by omega, rfl⟩)) (fun z => by omega) (fun z1 z2 => main _ (Or.inr ⟨by omega, rfl⟩))
end SCAN
/-- Tokens.scan: the tokens of the text, and END behind them -/
theorem sp_Tok_scan {tx tk : Ob} {K : Ob → Prop} (hn : 0 ≤ tx.1 0 ∧ tx.1 0 ≤ 240) (ht : ∀ i, 0 ≤ i → i < tx.1 0 → charC (tx.2.1 0 i)) (hK : ∀ (tk' : Ob) (N : Int), tk'.1 0 = N + 1 → TKS (tx.2.1 0) (tx.1 0) (tk'.2.1 0) (tk'.2.1 1) (tk'.2.2.2 0) N → tk'.2.1 0 N = 32 → tk'.2.1 1 N = tx.1 0 → K tk') : wp_Tok_scan tx tk K := by
  refine ⟨(tx.1 0 + 1).toNat, sp_scan hn ht (fun tk' hT => ?_) _ 0 _ (by omega) hn.1 (by omega) (TKS_0 _ _ _ _)⟩
  obtain ⟨en, g1, g2, g3, g4, g5, g6⟩ := hT
  refine sp_Tok_put ⟨g5, by omega⟩ (by decide) (hK _ (tk'.1 0) rfl ⟨en, fun k k1 k2 => ?_, fun k k1 k2 => ?_, g3, g4, g5, g6⟩ ?_ ?_)
  · show tokAt _ _ (updI (tk'.2.1 1) (tk'.1 0) _ k) (en k) (updI (tk'.2.1 0) (tk'.1 0) _ k) (updN (tk'.2.2.2 0) (tk'.1 0) _ k)
    rw [updI_n (by omega), updI_n (by omega), updN_n (by omega)]
    exact g1 k k1 k2
  · show eb en k ≤ updI (tk'.2.1 1) (tk'.1 0) _ k ∧ ∀ i, eb en k ≤ i → i < updI (tk'.2.1 1) (tk'.1 0) _ k → _
    rw [updI_n (by omega)]
    exact g2 k k1 k2
  · show updI (tk'.2.1 0) (tk'.1 0) 32 (tk'.1 0) = 32
    exact updI_s _ _ _
  · show updI (tk'.2.1 1) (tk'.1 0) (tx.1 0) (tk'.1 0) = tx.1 0
    exact updI_s _ _ _
