/-! printed by wip/gen/drive.py -/
def wp_Text_letterOf (y0 : Nat) (x2 : Int)  (K : Int → Prop) : Prop :=
  R32 (8 * x2) ∧ (0 ≤ (8 * x2) ∧ (8 * x2) < 64) ∧ ((y0 / 2 ^ (8 * x2).toNat) &&& 255) < 2147483648 ∧ (0 ≤ (((y0 / 2 ^ (8 * x2).toNat) &&& 255 : Nat) : Int) ∧ (((y0 / 2 ^ (8 * x2).toNat) &&& 255 : Nat) : Int) < 65536) ∧ (0 ≤ (((y0 / 2 ^ (8 * x2).toNat) &&& 255 : Nat) : Int) ∧ (((y0 / 2 ^ (8 * x2).toNat) &&& 255 : Nat) : Int) < 65536) ∧ K (((y0 / 2 ^ (8 * x2).toNat) &&& 255 : Nat) : Int)
def P_isSmall_12  (x0 : Int)  (K : Int → Prop) : Prop :=
  ((x0 < 48 → K 0) ∧ (¬ x0 < 48 → ((57 < x0 → K 0) ∧ (¬ 57 < x0 → K 1))))
def wp_P_isSmall (x0 : Int)  (K : Int → Prop) : Prop :=
  ((x0 < 97 → P_isSmall_12 x0 K) ∧ (¬ x0 < 97 → ((x0 ≤ 122 → K 1) ∧ (¬ x0 ≤ 122 → P_isSmall_12 x0 K))))
def P_isWordLetter_19  (x0 : Int)  (K : Int → Prop) : Prop :=
  ((¬ x0 = 95 → K 0) ∧ (x0 = 95 → K 1))
def wp_P_isWordLetter (x0 : Int)  (K : Int → Prop) : Prop :=
  wp_P_isSmall x0 (fun r_1 => ((¬ r_1 = 0 → K 1) ∧ (r_1 = 0 → ((x0 < 65 → P_isWordLetter_19 x0 K) ∧ (¬ x0 < 65 → ((x0 ≤ 90 → K 1) ∧ (¬ x0 ≤ 90 → P_isWordLetter_19 x0 K)))))))
def wp_Str_isLatin1   (K : Int → Prop) : Prop :=
  K 1
def wp_Str_coder   (K : Int → Prop) : Prop :=
  K 0
def wp_Str_length   (K : Int → Prop) : Prop :=
  wp_Str_coder (fun r_1 => (0 : Int) ≤ 11 ∧ (0 ≤ r_1 ∧ r_1 < 32) ∧ K ((11 : Int) / 2 ^ (r_1).toNat))
def wp_Lat_canEncode (x0 : Int)  (K : Int → Prop) : Prop :=
  ((x0 < 0 → K 0) ∧ (¬ x0 < 0 → ((255 < x0 → K 0) ∧ (¬ 255 < x0 → K 1))))
def Lat_indexOfChar_7  : Nat → Int → Int → Int → (Int → Prop) → Prop
  | 0, _, _, _, _ => False
  | n7 + 1, x3, x4, x5, K => ((x3 ≤ x5 → K (-1)) ∧ (¬ x3 ≤ x5 → ((0 : Int) ≤ x5 ∧ x5 < 11) ∧ ((¬ (sgb x5) = x4 → R32 (x5 + 1) ∧ Lat_indexOfChar_7 n7 x3 x4 (x5 + 1) K) ∧ ((sgb x5) = x4 → K x5))))
def wp_Lat_indexOfChar (x1 : Int) (x2 : Int) (x3 : Int)  (K : Int → Prop) : Prop :=
  (0 ≤ x1 ∧ x1 < 256) ∧ ∃ n7, Lat_indexOfChar_7 n7 x3 (if x1 < 128 then x1 else x1 - 256) x2 K
def wp_Lat_indexOf (x1 : Int) (x2 : Int) (x3 : Int)  (K : Int → Prop) : Prop :=
  wp_Lat_canEncode x1 (fun r_1 => ((¬ r_1 = 0 → (((max x2 (0 : Int)) < (min x3 (11 : Int)) → wp_Lat_indexOfChar x1 (max x2 (0 : Int)) (min x3 (11 : Int)) (fun r_2 => K r_2)) ∧ (¬ (max x2 (0 : Int)) < (min x3 (11 : Int)) → K (-1)))) ∧ (r_1 = 0 → K (-1))))
def wp_Str_indexOf2 (x1 : Int) (x2 : Int)  (K : Int → Prop) : Prop :=
  wp_Str_isLatin1 (fun r_1 => ((r_1 = 0 → False) ∧ (¬ r_1 = 0 → wp_Str_length (fun r_2 => wp_Lat_indexOf x1 x2 r_2 (fun r_3 => K r_3)))))
def wp_Str_indexOf (x1 : Int)  (K : Int → Prop) : Prop :=
  wp_Str_indexOf2 x1 0 (fun r_1 => K r_1)
def Text_add_96  (x3 : Int) (tx : Ob) (K : Int → Ob → Prop) : Prop :=
  R32 ((tx.1 0) + x3) ∧ K 1 (sI tx 0 ((tx.1 0) + x3))
def Text_add_66  : Nat → Nat → Int → Int → Ob → (Int → Ob → Prop) → Prop
  | 0, _, _, _, _, _ => False
  | n66 + 1, y1, x3, x4, tx, K => ((x3 ≤ x4 → Text_add_96 x3 tx K) ∧ (¬ x3 ≤ x4 → R32 ((tx.1 0) + x4) ∧ wp_Text_letterOf y1 x4 (fun r_1 => ((0 : Int) ≤ ((tx.1 0) + x4) ∧ ((tx.1 0) + x4) < (240 : Int)) ∧ ((0 : Int) ≤ r_1 ∧ r_1 < (65536 : Int)) ∧ R32 (x4 + 1) ∧ Text_add_66 n66 y1 x3 (x4 + 1) (sA tx 0 ((tx.1 0) + x4) r_1) K)))
def Text_add_49  (y1 : Nat) (x3 : Int) (tx : Ob) (K : Int → Ob → Prop) : Prop :=
  R32 ((tx.1 0) + x3) ∧ ((((tx.1 0) + x3) ≤ 240 → ∃ n66, Text_add_66 n66 y1 x3 0 tx K) ∧ (¬ ((tx.1 0) + x3) ≤ 240 → K 0 tx))
def Text_add_43 (L2 : Nat → Int → Ob → Prop) (y1 : Nat) (x3 : Int) (tx : Ob) (K : Int → Ob → Prop) : Prop :=
  R32 (x3 + 1) ∧ L2 y1 (x3 + 1) tx
def Text_add_2  : Nat → Nat → Int → Ob → (Int → Ob → Prop) → Prop
  | 0, _, _, _, _ => False
  | n2 + 1, y1, x3, tx, K => ((8 ≤ x3 → Text_add_49 y1 x3 tx K) ∧ (¬ 8 ≤ x3 → wp_Text_letterOf y1 x3 (fun r_2 => ((r_2 = 0 → Text_add_49 y1 x3 tx K) ∧ (¬ r_2 = 0 → wp_Text_letterOf y1 x3 (fun r_3 => wp_P_isWordLetter r_3 (fun r_4 => ((¬ r_4 = 0 → Text_add_43 (fun y1 x3 tx' => Text_add_2 n2 y1 x3 tx' K) y1 x3 tx K) ∧ (r_4 = 0 → wp_Str_indexOf r_3 (fun r_5 => ((0 ≤ r_5 → Text_add_43 (fun y1 x3 tx' => Text_add_2 n2 y1 x3 tx' K) y1 x3 tx K) ∧ (¬ 0 ≤ r_5 → K 0 tx))))))))))))
def wp_Text_add (y1 : Nat) (tx : Ob) (K : Int → Ob → Prop) : Prop :=
  ∃ n2, Text_add_2 n2 y1 0 tx K
def wp_P_type (y1 : Nat) (tx : Ob) (K : Int → Ob → Prop) : Prop :=
  wp_Text_add y1 tx (fun r_2 tx_1 => (r_2 = 0 ∨ r_2 = 1) ∧ K r_2 tx_1)
def wp_Cho_keepFirst (x1 : Int) (ch : Ob) (K : Ob → Prop) : Prop :=
  K (sI ch 0 (min (ch.1 0) (max x1 (0 : Int))))
def wp_Goa_goBack (x1 : Int) (x2 : Int) (go : Ob) (K : Ob → Prop) : Prop :=
  K (sI (sI go 1 x1) 0 x2)
def Ter_goBack_43  (x1 : Int) (te : Ob) (K : Ob → Prop) : Prop :=
  K (sI te 0 x1)
def Ter_goBack_0  : Nat → Int → Int → Ob → (Ob → Prop) → Prop
  | 0, _, _, _, _ => False
  | n0 + 1, x1, x2, te, K => (((te.1 1) ≤ x2 → Ter_goBack_43 x1 te K) ∧ (¬ (te.1 1) ≤ x2 → (((te.1 1) ≤ 0 → Ter_goBack_43 x1 te K) ∧ (¬ (te.1 1) ≤ 0 → R32 ((te.1 1) - 1) ∧ ((0 : Int) ≤ ((te.1 1) - 1) ∧ ((te.1 1) - 1) < (2440 : Int)) ∧ ((0 : Int) ≤ (te.2.1 4 ((te.1 1) - 1)) ∧ (te.2.1 4 ((te.1 1) - 1)) < (2440 : Int)) ∧ Ter_goBack_0 n0 x1 x2 (sA (sI te 1 ((te.1 1) - 1)) 2 (te.2.1 4 ((te.1 1) - 1)) (-1)) K))))
def wp_Ter_goBack (x1 : Int) (x2 : Int) (te : Ob) (K : Ob → Prop) : Prop :=
  ∃ n0, Ter_goBack_0 n0 x1 x2 te K
def wp_Wri_clear  (wr : Ob) (K : Ob → Prop) : Prop :=
  K (sI (sI (sI wr 0 0) 1 0) 3 0)
def wp_Sea_end  (te go ch se wr : Ob) (K : Ob → Ob → Ob → Ob → Ob → Prop) : Prop :=
  wp_Cho_keepFirst 0 ch (fun ch_1 => wp_Goa_goBack (-1) 0 go (fun go_2 => wp_Ter_goBack 0 0 te (fun te_3 => wp_Wri_clear wr (fun wr_4 => K te_3 go_2 ch_1 (sI (sI (sI (sI (sI se 1 (-1)) 2 0) 3 0) 4 0) 0 0) wr_4))))
def wp_Cod_partCount_p  (pr : Ob) (K : Int → Prop) : Prop :=
  K (pr.1 1)
def wp_Text_size  (tx : Ob) (K : Int → Prop) : Prop :=
  K (tx.1 0)
def wp_Text_at (x1 : Int) (tx : Ob) (K : Int → Prop) : Prop :=
  ((x1 < 0 → K 32) ∧ (¬ x1 < 0 → (((tx.1 0) ≤ x1 → K 32) ∧ (¬ (tx.1 0) ≤ x1 → ((0 : Int) ≤ x1 ∧ x1 < (240 : Int)) ∧ (0 ≤ (tx.2.1 0 x1) ∧ (tx.2.1 0 x1) < 65536) ∧ K (tx.2.1 0 x1)))))
def wp_Tok_lengthenWord (x1 : Int) (x2 : Int) (tk : Ob) (K : Ob → Prop) : Prop :=
  R32 ((tk.1 0) - 1) ∧ ((0 ≤ ((tk.1 0) - 1) → ((0 : Int) ≤ ((tk.1 0) - 1) ∧ ((tk.1 0) - 1) < (241 : Int)) ∧ R32 (x2 - (tk.2.1 1 ((tk.1 0) - 1))) ∧ ((8 ≤ (x2 - (tk.2.1 1 ((tk.1 0) - 1))) → ((0 : Int) ≤ ((tk.1 0) - 1) ∧ ((tk.1 0) - 1) < (241 : Int)) ∧ ((0 : Int) ≤ 63 ∧ 63 < (65536 : Int)) ∧ K (sA tk 0 ((tk.1 0) - 1) 63)) ∧ (¬ 8 ≤ (x2 - (tk.2.1 1 ((tk.1 0) - 1))) → ((0 : Int) ≤ ((tk.1 0) - 1) ∧ ((tk.1 0) - 1) < (241 : Int)) ∧ 0 ≤ x1 ∧ R32 (8 * (x2 - (tk.2.1 1 ((tk.1 0) - 1)))) ∧ (0 ≤ (8 * (x2 - (tk.2.1 1 ((tk.1 0) - 1)))) ∧ (8 * (x2 - (tk.2.1 1 ((tk.1 0) - 1)))) < 64) ∧ ((x1).toNat) * 2 ^ (8 * (x2 - (tk.2.1 1 ((tk.1 0) - 1)))).toNat < 18446744073709551616 ∧ ((0 : Int) ≤ ((tk.1 0) - 1) ∧ ((tk.1 0) - 1) < (241 : Int)) ∧ K (sL tk 0 ((tk.1 0) - 1) ((tk.2.2.2 0 ((tk.1 0) - 1)) ||| (((x1).toNat) * 2 ^ (8 * (x2 - (tk.2.1 1 ((tk.1 0) - 1)))).toNat)))))) ∧ (¬ 0 ≤ ((tk.1 0) - 1) → K tk))
def wp_Tok_put (x1 : Int) (x2 : Int) (y3 : Nat) (tk : Ob) (K : Ob → Prop) : Prop :=
  ((241 ≤ (tk.1 0) → K tk) ∧ (¬ 241 ≤ (tk.1 0) → ((0 : Int) ≤ (tk.1 0) ∧ (tk.1 0) < (241 : Int)) ∧ ((0 : Int) ≤ x1 ∧ x1 < (65536 : Int)) ∧ ((0 : Int) ≤ (tk.1 0) ∧ (tk.1 0) < (241 : Int)) ∧ ((0 : Int) ≤ (tk.1 0) ∧ (tk.1 0) < (241 : Int)) ∧ R32 ((tk.1 0) + 1) ∧ K (sI (sL (sA (sA tk 0 (tk.1 0) x1) 1 (tk.1 0) x2) 0 (tk.1 0) y3) 0 ((tk.1 0) + 1))))
def wp_Tok_completeNeck  (tk : Ob) (K : Ob → Prop) : Prop :=
  (((tk.1 0) ≤ 0 → K tk) ∧ (¬ (tk.1 0) ≤ 0 → R32 ((tk.1 0) - 1) ∧ ((0 : Int) ≤ ((tk.1 0) - 1) ∧ ((tk.1 0) - 1) < (241 : Int)) ∧ ((0 : Int) ≤ 58 ∧ 58 < (65536 : Int)) ∧ K (sA tk 0 ((tk.1 0) - 1) 58)))
def Tok_scan_155   (tx tk : Ob) (K : Ob → Prop) : Prop :=
  wp_Text_size tx (fun r_2 => wp_Tok_put 32 r_2 0 tk (fun tk_3 => K tk_3))
def Tok_scan_149 (L7 : Int → Ob → Prop) (x2 : Int) (tx tk : Ob) (K : Ob → Prop) : Prop :=
  R32 (x2 + 1) ∧ L7 (x2 + 1) tk
def Tok_scan_123 (L7 : Int → Ob → Prop) (x2 : Int) (tx tk : Ob) (K : Ob → Prop) : Prop :=
  wp_Tok_put 63 x2 0 tk (fun tk_8 => Tok_scan_149 L7 x2 tx tk_8 K)
def Tok_scan_109 (L7 : Int → Ob → Prop) (x2 : Int) (x4 : Int) (tx tk : Ob) (K : Ob → Prop) : Prop :=
  ((x4 = 58 → Tok_scan_123 L7 x2 tx tk K) ∧ (¬ x4 = 58 → ((¬ x4 = 45 → ((x4 = 32 → Tok_scan_149 L7 x2 tx tk K) ∧ (¬ x4 = 32 → wp_Tok_put x4 x2 0 tk (fun tk_9 => Tok_scan_149 L7 x2 tx tk_9 K)))) ∧ (x4 = 45 → Tok_scan_123 L7 x2 tx tk K))))
def Tok_scan_79 (L7 : Int → Ob → Prop) (x2 : Int) (x4 : Int) (s0 : Int) (tx tk : Ob) (K : Ob → Prop) : Prop :=
  0 ≤ x4 ∧ wp_Tok_put s0 x2 ((x4).toNat) tk (fun tk_12 => Tok_scan_149 L7 x2 tx tk_12 K)
def Tok_scan_55 (L7 : Int → Ob → Prop) (x2 : Int) (x3 : Int) (x4 : Int) (tx tk : Ob) (K : Ob → Prop) : Prop :=
  wp_P_isWordLetter x4 (fun r_7 => ((r_7 = 0 → ((¬ x4 = 45 → Tok_scan_109 L7 x2 x4 tx tk K) ∧ (x4 = 45 → ((¬ x3 = 58 → Tok_scan_109 L7 x2 x4 tx tk K) ∧ (x3 = 58 → wp_Tok_completeNeck tk (fun tk_10 => Tok_scan_149 L7 x2 tx tk_10 K)))))) ∧ (¬ r_7 = 0 → wp_P_isSmall x4 (fun r_11 => ((r_11 = 0 → Tok_scan_79 L7 x2 x4 65 tx tk K) ∧ (¬ r_11 = 0 → Tok_scan_79 L7 x2 x4 97 tx tk K))))))
def Tok_scan_7  : Nat → Int → Ob → Ob → (Ob → Prop) → Prop
  | 0, _, _, _, _ => False
  | n7 + 1, x2, tx, tk, K => wp_Text_size tx (fun r_1 => ((r_1 ≤ x2 → Tok_scan_155 tx tk K) ∧ (¬ r_1 ≤ x2 → R32 (x2 - 1) ∧ wp_Text_at (x2 - 1) tx (fun r_4 => wp_Text_at x2 tx (fun r_5 => wp_P_isWordLetter r_5 (fun r_6 => ((r_6 = 0 → Tok_scan_55 (fun x2 tk' => Tok_scan_7 n7 x2 tx tk' K) x2 r_4 r_5 tx tk K) ∧ (¬ r_6 = 0 → wp_P_isWordLetter r_4 (fun r_13 => ((r_13 = 0 → Tok_scan_55 (fun x2 tk' => Tok_scan_7 n7 x2 tx tk' K) x2 r_4 r_5 tx tk K) ∧ (¬ r_13 = 0 → wp_Tok_lengthenWord r_5 x2 tk (fun tk_14 => Tok_scan_149 (fun x2 tk' => Tok_scan_7 n7 x2 tx tk' K) x2 tx tk_14 K))))))))))))
def wp_Tok_scan  (tx tk : Ob) (K : Ob → Prop) : Prop :=
  ∃ n7, Tok_scan_7 n7 0 tx (sI tk 0 0) K
def wp_Cod_clear_r  (rc : Ob) (K : Ob → Prop) : Prop :=
  K (sI (sI rc 0 0) 1 0)
def wp_Rd_startPart  (rd : Ob) (K : Ob → Prop) : Prop :=
  K (sI (sI (sI rd 0 0) 1 0) 2 0)
def wp_Rd_start  (tx tk rc rd : Ob) (K : Ob → Ob → Ob → Prop) : Prop :=
  wp_Tok_scan tx tk (fun tk_1 => wp_Cod_clear_r rc (fun rc_2 => wp_Rd_startPart (sI (sI (sI rd 4 0) 3 0) 5 0) (fun rd_3 => K tk_1 rc_2 rd_3)))
def wp_Tok_kindAt (x1 : Int) (tk : Ob) (K : Int → Prop) : Prop :=
  ((x1 < 0 → K 32) ∧ (¬ x1 < 0 → (((tk.1 0) ≤ x1 → K 32) ∧ (¬ (tk.1 0) ≤ x1 → ((0 : Int) ≤ x1 ∧ x1 < (241 : Int)) ∧ (0 ≤ (tk.2.1 0 x1) ∧ (tk.2.1 0 x1) < 65536) ∧ K (tk.2.1 0 x1)))))
def wp_Rd_isAt (x1 : Int) (tk rd : Ob) (K : Int → Prop) : Prop :=
  wp_Tok_kindAt (rd.1 4) tk (fun r_1 => ((¬ r_1 = x1 → K 0) ∧ (r_1 = x1 → K 1)))
def wp_Tok_wordAt (x1 : Int) (tk : Ob) (K : Nat → Prop) : Prop :=
  ((x1 < 0 → K 0) ∧ (¬ x1 < 0 → (((tk.1 0) ≤ x1 → K 0) ∧ (¬ (tk.1 0) ≤ x1 → ((0 : Int) ≤ x1 ∧ x1 < (241 : Int)) ∧ K (tk.2.2.2 0 x1)))))
def Rd_variableSymbol_133  (x3 : Int) (rd : Ob) (K : Int → Ob → Prop) : Prop :=
  R32 ((-2) - x3) ∧ K ((-2) - x3) rd
def Rd_variableSymbol_106  (y1 : Nat) (x3 : Int) (s0 : Int) (s1 : Int) (rd : Ob) (K : Int → Ob → Prop) : Prop :=
  (0 : Int) ≤ s1 ∧ (0 : Int) ≤ s0 ∧ (((Int.toNat s1 ||| Int.toNat s0 : Nat) : Int) = 0 ∨ ((Int.toNat s1 ||| Int.toNat s0 : Nat) : Int) = 1) ∧ ((8 ≤ x3 → Rd_variableSymbol_133 x3 (sI rd 5 ((Int.toNat s1 ||| Int.toNat s0 : Nat) : Int)) K) ∧ (¬ 8 ≤ x3 → ((0 : Int) ≤ x3 ∧ x3 < (8 : Int)) ∧ R32 ((rd.1 0) + 1) ∧ Rd_variableSymbol_133 x3 (sI (sL (sI rd 5 ((Int.toNat s1 ||| Int.toNat s0 : Nat) : Int)) 0 x3 y1) 0 ((rd.1 0) + 1)) K))
def Rd_variableSymbol_75  (y1 : Nat) (x3 : Int) (rd : Ob) (K : Int → Ob → Prop) : Prop :=
  ((¬ x3 = (rd.1 0) → Rd_variableSymbol_133 x3 rd K) ∧ (x3 = (rd.1 0) → R32 (x3 + 1) ∧ R32 ((x3 + 1) + (rd.1 1)) ∧ ((((x3 + 1) + (rd.1 1)) ≤ 8 → Rd_variableSymbol_106 y1 x3 0 (rd.1 5) rd K) ∧ (¬ ((x3 + 1) + (rd.1 1)) ≤ 8 → Rd_variableSymbol_106 y1 x3 1 (rd.1 5) rd K))))
def Rd_variableSymbol_50  : Nat → Nat → Int → Ob → (Int → Ob → Prop) → Prop
  | 0, _, _, _, _ => False
  | n50 + 1, y1, x3, rd, K => (((rd.1 0) ≤ x3 → Rd_variableSymbol_75 y1 x3 rd K) ∧ (¬ (rd.1 0) ≤ x3 → ((0 : Int) ≤ x3 ∧ x3 < (8 : Int)) ∧ (((rd.2.2.2 0 x3) = y1 → Rd_variableSymbol_75 y1 x3 rd K) ∧ (¬ (rd.2.2.2 0 x3) = y1 → R32 (x3 + 1) ∧ Rd_variableSymbol_50 n50 y1 (x3 + 1) rd K))))
def Rd_variableSymbol_42  (s0 : Int) (s1 : Int) (rd : Ob) (K : Int → Ob → Prop) : Prop :=
  (0 : Int) ≤ s1 ∧ (0 : Int) ≤ s0 ∧ (((Int.toNat s1 ||| Int.toNat s0 : Nat) : Int) = 0 ∨ ((Int.toNat s1 ||| Int.toNat s0 : Nat) : Int) = 1) ∧ K (-1) (sI rd 5 ((Int.toNat s1 ||| Int.toNat s0 : Nat) : Int))
def wp_Rd_variableSymbol (y1 : Nat) (rd : Ob) (K : Int → Ob → Prop) : Prop :=
  ((¬ y1 = 95 → ∃ n50, Rd_variableSymbol_50 n50 y1 0 rd K) ∧ (y1 = 95 → R32 ((rd.1 1) + 1) ∧ R32 ((rd.1 0) + ((rd.1 1) + 1)) ∧ ((((rd.1 0) + ((rd.1 1) + 1)) ≤ 8 → Rd_variableSymbol_42 0 (rd.1 5) (sI rd 1 ((rd.1 1) + 1)) K) ∧ (¬ ((rd.1 0) + ((rd.1 1) + 1)) ≤ 8 → Rd_variableSymbol_42 1 (rd.1 5) (sI rd 1 ((rd.1 1) + 1)) K))))
def Cod_add_r_32   (rc : Ob) (K : Int → Ob → Prop) : Prop :=
  R32 ((rc.1 0) - 1) ∧ K ((rc.1 0) - 1) rc
def wp_Cod_add_r (x1 : Int) (rc : Ob) (K : Int → Ob → Prop) : Prop :=
  ((240 ≤ (rc.1 0) → Cod_add_r_32 rc K) ∧ (¬ 240 ≤ (rc.1 0) → ((0 : Int) ≤ (rc.1 0) ∧ (rc.1 0) < (240 : Int)) ∧ R32 ((rc.1 0) + 1) ∧ Cod_add_r_32 (sI (sA rc 0 (rc.1 0) x1) 0 ((rc.1 0) + 1)) K))
def Nam_symbolOf_68  (x3 : Int) (nm : Ob) (K : Int → Ob → Prop) : Prop :=
  R32 (3 + x3) ∧ R32 ((3 + x3) * 8) ∧ K ((3 + x3) * 8) nm
def Nam_symbolOf_27  (y1 : Nat) (x3 : Int) (nm : Ob) (K : Int → Ob → Prop) : Prop :=
  ((¬ x3 = 32 → ((¬ x3 = (nm.1 1) → Nam_symbolOf_68 x3 nm K) ∧ (x3 = (nm.1 1) → ((0 : Int) ≤ x3 ∧ x3 < (32 : Int)) ∧ R32 ((nm.1 1) + 1) ∧ Nam_symbolOf_68 x3 (sI (sL nm 0 x3 y1) 1 ((nm.1 1) + 1)) K))) ∧ (x3 = 32 → Nam_symbolOf_68 0 (sI nm 2 1) K))
def Nam_symbolOf_2  : Nat → Nat → Int → Ob → (Int → Ob → Prop) → Prop
  | 0, _, _, _, _ => False
  | n2 + 1, y1, x3, nm, K => (((nm.1 1) ≤ x3 → Nam_symbolOf_27 y1 x3 nm K) ∧ (¬ (nm.1 1) ≤ x3 → ((0 : Int) ≤ x3 ∧ x3 < (32 : Int)) ∧ (((nm.2.2.2 0 x3) = y1 → Nam_symbolOf_27 y1 x3 nm K) ∧ (¬ (nm.2.2.2 0 x3) = y1 → R32 (x3 + 1) ∧ Nam_symbolOf_2 n2 y1 (x3 + 1) nm K))))
def wp_Nam_symbolOf (y1 : Nat) (nm : Ob) (K : Int → Ob → Prop) : Prop :=
  ∃ n2, Nam_symbolOf_2 n2 y1 0 nm K
def wp_Rd_enter  (rd : Ob) (K : Int → Ob → Prop) : Prop :=
  (((rd.1 3) < 15 → R32 ((rd.1 3) + 1) ∧ R32 ((rd.1 4) + 1) ∧ K 1 (sI (sI rd 3 ((rd.1 3) + 1)) 4 ((rd.1 4) + 1))) ∧ (¬ (rd.1 3) < 15 → K 0 rd))
def wp_Rd_accept (x1 : Int) (tk rd : Ob) (K : Int → Ob → Prop) : Prop :=
  wp_Tok_kindAt (rd.1 4) tk (fun r_1 => ((r_1 = x1 → R32 ((rd.1 4) + 1) ∧ K 1 (sI rd 4 ((rd.1 4) + 1))) ∧ (¬ r_1 = x1 → K 0 rd)))
def wp_Cod_setArguments_r (x1 : Int) (x2 : Int) (rc : Ob) (K : Ob → Prop) : Prop :=
  ((x1 < 0 → K rc) ∧ (¬ x1 < 0 → (((rc.1 0) ≤ x1 → K rc) ∧ (¬ (rc.1 0) ≤ x1 → ((0 : Int) ≤ x1 ∧ x1 < (240 : Int)) ∧ R32 ((rc.2.1 0 x1) + x2) ∧ ((0 : Int) ≤ x1 ∧ x1 < (240 : Int)) ∧ K (sA rc 0 x1 ((rc.2.1 0 x1) + x2))))))
def Rd_readArguments_68 (RT : Ob → Ob → Ob → Ob → (Int → Ob → Ob → Ob → Prop) → Prop)  (x1 : Int) (x2 : Int) (s0 : Int) (s1 : Int) (tk nm rc rd : Ob) (K : Int → Ob → Ob → Ob → Prop) : Prop :=
  (0 : Int) ≤ s1 ∧ (0 : Int) ≤ s0 ∧ (((Int.toNat s1 ||| Int.toNat s0 : Nat) : Int) = 0 ∨ ((Int.toNat s1 ||| Int.toNat s0 : Nat) : Int) = 1) ∧ wp_Cod_setArguments_r x1 (min x2 (4 : Int)) rc (fun rc_3 => R32 ((rd.1 3) - 1) ∧ wp_Rd_accept 41 tk (sI (sI rd 5 ((Int.toNat s1 ||| Int.toNat s0 : Nat) : Int)) 3 ((rd.1 3) - 1)) (fun r_5 rd_4 => (r_5 = 0 ∨ r_5 = 1) ∧ K r_5 nm rc_3 rd_4))
def Rd_readArguments_53 (RT : Ob → Ob → Ob → Ob → (Int → Ob → Ob → Ob → Prop) → Prop)  (x1 : Int) (x2 : Int) (tk nm rc rd : Ob) (K : Int → Ob → Ob → Ob → Prop) : Prop :=
  ((x2 ≤ 4 → Rd_readArguments_68 RT x1 x2 0 (rd.1 5) tk nm rc rd K) ∧ (¬ x2 ≤ 4 → Rd_readArguments_68 RT x1 x2 1 (rd.1 5) tk nm rc rd K))
def Rd_readArguments_16 (RT : Ob → Ob → Ob → Ob → (Int → Ob → Ob → Ob → Prop) → Prop)  : Nat → Int → Int → Int → Int → Ob → Ob → Ob → Ob → (Int → Ob → Ob → Ob → Prop) → Prop
  | 0, _, _, _, _, _, _, _, _, _ => False
  | n16 + 1, x1, x2, x3, x4, tk, nm, rc, rd, K => ((240 ≤ x4 → Rd_readArguments_53 RT x1 x2 tk nm rc rd K) ∧ (¬ 240 ≤ x4 → ((x3 = 0 → Rd_readArguments_53 RT x1 x2 tk nm rc rd K) ∧ (¬ x3 = 0 → RT tk nm rc rd (fun r_9 nm_6 rc_7 rd_8 => ((¬ r_9 = 0 → R32 (x2 + 1) ∧ wp_Rd_accept 44 tk rd_8 (fun r_11 rd_10 => R32 (x4 + 1) ∧ Rd_readArguments_16 RT n16 x1 (x2 + 1) r_11 (x4 + 1) tk nm_6 rc_7 rd_10 K)) ∧ (r_9 = 0 → K 0 nm_6 rc_7 rd_8)))))))
def wp_Rd_readArguments (RT : Ob → Ob → Ob → Ob → (Int → Ob → Ob → Ob → Prop) → Prop) (x1 : Int) (tk nm rc rd : Ob) (K : Int → Ob → Ob → Ob → Prop) : Prop :=
  wp_Rd_enter rd (fun r_2 rd_1 => ((¬ r_2 = 0 → ∃ n16, Rd_readArguments_16 RT n16 x1 0 1 0 tk nm rc rd_1 K) ∧ (r_2 = 0 → K 0 nm rc rd_1)))
def Rd_readList_99 (RT : Ob → Ob → Ob → Ob → (Int → Ob → Ob → Ob → Prop) → Prop)   (tk nm rc rd : Ob) (K : Int → Ob → Ob → Ob → Prop) : Prop :=
  R32 ((rd.1 3) - 1) ∧ wp_Rd_accept 93 tk (sI rd 3 ((rd.1 3) - 1)) (fun r_11 rd_10 => (r_11 = 0 ∨ r_11 = 1) ∧ K r_11 nm rc rd_10)
def Rd_readList_69 (RT : Ob → Ob → Ob → Ob → (Int → Ob → Ob → Ob → Prop) → Prop)   (tk nm rc rd : Ob) (K : Int → Ob → Ob → Ob → Prop) : Prop :=
  wp_Rd_accept 124 tk rd (fun r_5 rd_4 => ((¬ r_5 = 0 → RT tk nm rc rd_4 (fun r_9 nm_6 rc_7 rd_8 => ((¬ r_9 = 0 → Rd_readList_99 RT tk nm_6 rc_7 rd_8 K) ∧ (r_9 = 0 → K 0 nm_6 rc_7 rd_8)))) ∧ (r_5 = 0 → wp_Cod_add_r 0 rc (fun r_13 rc_12 => Rd_readList_99 RT tk nm rc_12 rd_4 K))))
def Rd_readList_26 (RT : Ob → Ob → Ob → Ob → (Int → Ob → Ob → Ob → Prop) → Prop)  : Nat → Int → Int → Ob → Ob → Ob → Ob → (Int → Ob → Ob → Ob → Prop) → Prop
  | 0, _, _, _, _, _, _, _ => False
  | n26 + 1, x1, x2, tk, nm, rc, rd, K => ((240 ≤ x2 → Rd_readList_69 RT tk nm rc rd K) ∧ (¬ 240 ≤ x2 → ((x1 = 0 → Rd_readList_69 RT tk nm rc rd K) ∧ (¬ x1 = 0 → wp_Cod_add_r 10 rc (fun r_15 rc_14 => RT tk nm rc_14 rd (fun r_19 nm_16 rc_17 rd_18 => ((¬ r_19 = 0 → wp_Rd_accept 44 tk rd_18 (fun r_21 rd_20 => R32 (x2 + 1) ∧ Rd_readList_26 RT n26 r_21 (x2 + 1) tk nm_16 rc_17 rd_20 K)) ∧ (r_19 = 0 → K 0 nm_16 rc_17 rd_18))))))))
def Rd_readList_23 (RT : Ob → Ob → Ob → Ob → (Int → Ob → Ob → Ob → Prop) → Prop)  (s0 : Int) (tk nm rc rd : Ob) (K : Int → Ob → Ob → Ob → Prop) : Prop :=
  ∃ n26, Rd_readList_26 RT n26 s0 0 tk nm rc rd K
def wp_Rd_readList (RT : Ob → Ob → Ob → Ob → (Int → Ob → Ob → Ob → Prop) → Prop)  (tk nm rc rd : Ob) (K : Int → Ob → Ob → Ob → Prop) : Prop :=
  wp_Rd_enter rd (fun r_2 rd_1 => ((¬ r_2 = 0 → wp_Rd_isAt 93 tk rd_1 (fun r_3 => ((¬ r_3 = 0 → Rd_readList_23 RT 0 tk nm rc rd_1 K) ∧ (r_3 = 0 → Rd_readList_23 RT 1 tk nm rc rd_1 K)))) ∧ (r_2 = 0 → K 0 nm rc rd_1)))
def bd_Rd_readTerm (RT : Ob → Ob → Ob → Ob → (Int → Ob → Ob → Ob → Prop) → Prop)  (tk nm rc rd : Ob) (K : Int → Ob → Ob → Ob → Prop) : Prop :=
  wp_Rd_isAt 65 tk rd (fun r_1 => ((r_1 = 0 → wp_Rd_isAt 97 tk rd (fun r_2 => ((r_2 = 0 → wp_Rd_isAt 91 tk rd (fun r_3 => ((r_3 = 0 → K 0 nm rc rd) ∧ (¬ r_3 = 0 → wp_Rd_readList RT tk nm rc rd (fun r_7 nm_4 rc_5 rd_6 => ((r_7 = 0 → K 0 nm_4 rc_5 rd_6) ∧ (¬ r_7 = 0 → K 1 nm_4 rc_5 rd_6))))))) ∧ (¬ r_2 = 0 → wp_Tok_wordAt (rd.1 4) tk (fun r_8 => wp_Nam_symbolOf r_8 nm (fun r_10 nm_9 => wp_Cod_add_r r_10 rc (fun r_12 rc_11 => R32 ((rd.1 4) + 1) ∧ wp_Rd_isAt 40 tk (sI rd 4 ((rd.1 4) + 1)) (fun r_13 => ((r_13 = 0 → K 1 nm_9 rc_11 (sI rd 4 ((rd.1 4) + 1))) ∧ (¬ r_13 = 0 → wp_Rd_readArguments RT r_12 tk nm_9 rc_11 (sI rd 4 ((rd.1 4) + 1)) (fun r_17 nm_14 rc_15 rd_16 => ((r_17 = 0 → K 0 nm_14 rc_15 rd_16) ∧ (¬ r_17 = 0 → K 1 nm_14 rc_15 rd_16))))))))))))) ∧ (¬ r_1 = 0 → wp_Tok_wordAt (rd.1 4) tk (fun r_18 => wp_Rd_variableSymbol r_18 rd (fun r_20 rd_19 => wp_Cod_add_r r_20 rc (fun r_22 rc_21 => R32 ((rd_19.1 4) + 1) ∧ K 1 nm rc_21 (sI rd_19 4 ((rd_19.1 4) + 1))))))))
def wp_Rd_readTerm : Nat → Ob → Ob → Ob → Ob → (Int → Ob → Ob → Ob → Prop) → Prop
  | 0, _, _, _, _, _ => False
  | n + 1, tk, nm, rc, rd, K => bd_Rd_readTerm (fun tk' nm' rc' rd' K => wp_Rd_readTerm n tk' nm' rc' rd' K) tk nm rc rd K
def Rd_readGoals_65 (L4 : Int → Int → Ob → Ob → Ob → Prop) (x2 : Int) (tk nm rc rd : Ob) (K : Int → Ob → Ob → Ob → Prop) : Prop :=
  wp_Rd_accept 44 tk rd (fun r_9 rd_8 => R32 (x2 + 1) ∧ L4 r_9 (x2 + 1) nm rc rd_8)
def Rd_readGoals_4  : Nat → Int → Int → Ob → Ob → Ob → Ob → (Int → Ob → Ob → Ob → Prop) → Prop
  | 0, _, _, _, _, _, _, _ => False
  | n4 + 1, x1, x2, tk, nm, rc, rd, K => ((240 ≤ x2 → K 1 nm rc rd) ∧ (¬ 240 ≤ x2 → ((x1 = 0 → K 1 nm rc rd) ∧ (¬ x1 = 0 → R32 ((rd.1 2) + 1) ∧ wp_Rd_accept 33 tk (sI rd 2 ((rd.1 2) + 1)) (fun r_2 rd_1 => ((r_2 = 0 → wp_Rd_isAt 97 tk rd_1 (fun r_3 => ((r_3 = 0 → K 0 nm rc rd_1) ∧ (¬ r_3 = 0 → wp_Rd_readTerm 16 tk nm rc rd_1 (fun r_7 nm_4 rc_5 rd_6 => ((¬ r_7 = 0 → Rd_readGoals_65 (fun x1 x2 nm' rc' rd' => Rd_readGoals_4 n4 x1 x2 tk nm' rc' rd' K) x2 tk nm_4 rc_5 rd_6 K) ∧ (r_7 = 0 → K 0 nm_4 rc_5 rd_6))))))) ∧ (¬ r_2 = 0 → wp_Cod_add_r 16 rc (fun r_11 rc_10 => Rd_readGoals_65 (fun x1 x2 nm' rc' rd' => Rd_readGoals_4 n4 x1 x2 tk nm' rc' rd' K) x2 tk nm rc_10 rd_1 K))))))))
def wp_Rd_readGoals  (tk nm rc rd : Ob) (K : Int → Ob → Ob → Ob → Prop) : Prop :=
  ∃ n4, Rd_readGoals_4 n4 1 0 tk nm rc rd K
def wp_Cod_partCount_r  (rc : Ob) (K : Int → Prop) : Prop :=
  K (rc.1 1)
def wp_Cod_startOf_r (x1 : Int) (rc : Ob) (K : Int → Prop) : Prop :=
  ((x1 < 1 → K 0) ∧ (¬ x1 < 1 → ((x1 ≤ 24 → R32 (x1 - 1) ∧ ((0 : Int) ≤ (x1 - 1) ∧ (x1 - 1) < (24 : Int)) ∧ K (rc.2.1 2 (x1 - 1))) ∧ (¬ x1 ≤ 24 → K 0))))
def wp_Cod_symbolsSince_r (x1 : Int) (rc : Ob) (K : Int → Prop) : Prop :=
  wp_Cod_startOf_r x1 rc (fun r_1 => R32 ((rc.1 0) - r_1) ∧ K ((rc.1 0) - r_1))
def wp_P_argumentsOf (x0 : Int)  (K : Int → Prop) : Prop :=
  ((0 ≤ x0 → 0 ≤ x0 ∧ K (x0 % 8)) ∧ (¬ 0 ≤ x0 → K 0))
def Cod_measure_r_60 (L7 : Int → Int → Ob → Prop) (x1 : Int) (x2 : Int) (x3 : Int) (rc : Ob) (K : Ob → Prop) : Prop :=
  R32 (x3 - x2) ∧ ((0 : Int) ≤ x2 ∧ x2 < (240 : Int)) ∧ R32 (x2 + (-1)) ∧ L7 x1 (x2 + (-1)) (sA rc 1 x2 (x3 - x2))
def Cod_measure_r_30 (L7 : Int → Int → Ob → Prop) : Nat → Int → Int → Int → Int → Int → Ob → (Ob → Prop) → Prop
  | 0, _, _, _, _, _, _, _ => False
  | n30 + 1, x1, x2, x3, x4, x5, rc, K => ((x4 ≤ x5 → Cod_measure_r_60 L7 x1 x2 x3 rc K) ∧ (¬ x4 ≤ x5 → (((rc.1 0) ≤ x3 → Cod_measure_r_60 L7 x1 x2 x3 rc K) ∧ (¬ (rc.1 0) ≤ x3 → ((0 : Int) ≤ x3 ∧ x3 < (240 : Int)) ∧ R32 (x3 + (rc.2.1 1 x3)) ∧ R32 (x5 + 1) ∧ Cod_measure_r_30 L7 n30 x1 x2 (x3 + (rc.2.1 1 x3)) x4 (x5 + 1) rc K))))
def Cod_measure_r_7  : Nat → Int → Int → Ob → (Ob → Prop) → Prop
  | 0, _, _, _, _ => False
  | n7 + 1, x1, x2, rc, K => ((x2 < x1 → K rc) ∧ (¬ x2 < x1 → R32 (x2 + 1) ∧ ((0 : Int) ≤ x2 ∧ x2 < (240 : Int)) ∧ wp_P_argumentsOf (rc.2.1 0 x2) (fun r_1 => ∃ n30, Cod_measure_r_30 (fun x1 x2 rc' => Cod_measure_r_7 n7 x1 x2 rc' K) n30 x1 x2 (x2 + 1) r_1 0 rc K)))
def wp_Cod_measure_r (x1 : Int) (rc : Ob) (K : Ob → Prop) : Prop :=
  R32 ((rc.1 0) - 1) ∧ ∃ n7, Cod_measure_r_7 n7 x1 ((rc.1 0) - 1) rc K
def Cod_endPart_r_37   (rc : Ob) (K : Ob → Prop) : Prop :=
  R32 ((rc.1 1) + 1) ∧ K (sI rc 1 ((rc.1 1) + 1))
def wp_Cod_endPart_r  (rc : Ob) (K : Ob → Prop) : Prop :=
  ((24 ≤ (rc.1 1) → Cod_endPart_r_37 rc K) ∧ (¬ 24 ≤ (rc.1 1) → ((0 : Int) ≤ (rc.1 1) ∧ (rc.1 1) < (24 : Int)) ∧ wp_Cod_startOf_r (rc.1 1) (sA rc 2 (rc.1 1) (rc.1 0)) (fun r_1 => wp_Cod_measure_r r_1 (sA rc 2 (rc.1 1) (rc.1 0)) (fun rc_2 => Cod_endPart_r_37 rc_2 K))))
def Rd_endPart_63  (s0 : Int) (s1 : Int) (tk rc rd : Ob) (K : Int → Ob → Ob → Prop) : Prop :=
  (0 : Int) ≤ s1 ∧ (0 : Int) ≤ s0 ∧ (((Int.toNat s1 ||| Int.toNat s0 : Nat) : Int) = 0 ∨ ((Int.toNat s1 ||| Int.toNat s0 : Nat) : Int) = 1) ∧ wp_Cod_endPart_r rc (fun rc_5 => K 1 rc_5 (sI rd 5 ((Int.toNat s1 ||| Int.toNat s0 : Nat) : Int)))
def Rd_endPart_40  (s0 : Int) (s1 : Int) (tk rc rd : Ob) (K : Int → Ob → Ob → Prop) : Prop :=
  (0 : Int) ≤ s1 ∧ (0 : Int) ≤ s0 ∧ (((Int.toNat s1 ||| Int.toNat s0 : Nat) : Int) = 0 ∨ ((Int.toNat s1 ||| Int.toNat s0 : Nat) : Int) = 1) ∧ (((rd.1 2) ≤ 8 → Rd_endPart_63 0 ((Int.toNat s1 ||| Int.toNat s0 : Nat) : Int) tk rc (sI rd 5 ((Int.toNat s1 ||| Int.toNat s0 : Nat) : Int)) K) ∧ (¬ (rd.1 2) ≤ 8 → Rd_endPart_63 1 ((Int.toNat s1 ||| Int.toNat s0 : Nat) : Int) tk rc (sI rd 5 ((Int.toNat s1 ||| Int.toNat s0 : Nat) : Int)) K))
def wp_Rd_endPart  (tk rc rd : Ob) (K : Int → Ob → Ob → Prop) : Prop :=
  wp_Rd_accept 46 tk rd (fun r_2 rd_1 => ((¬ r_2 = 0 → wp_Cod_partCount_r rc (fun r_3 => wp_Cod_symbolsSince_r r_3 rc (fun r_4 => ((r_4 ≤ 40 → Rd_endPart_40 0 (rd_1.1 5) tk rc rd_1 K) ∧ (¬ r_4 ≤ 40 → Rd_endPart_40 1 (rd_1.1 5) tk rc rd_1 K))))) ∧ (r_2 = 0 → K 0 rc rd_1)))
def Rd_readClause_40   (tk nm rc rd : Ob) (K : Int → Ob → Ob → Ob → Prop) : Prop :=
  wp_Rd_endPart tk rc rd (fun r_11 rc_9 rd_10 => (r_11 = 0 ∨ r_11 = 1) ∧ K r_11 nm rc_9 rd_10)
def wp_Rd_readClause  (tk nm rc rd : Ob) (K : Int → Ob → Ob → Ob → Prop) : Prop :=
  wp_Rd_startPart rd (fun rd_1 => wp_Rd_isAt 97 tk rd_1 (fun r_2 => ((r_2 = 0 → K 0 nm rc rd_1) ∧ (¬ r_2 = 0 → wp_Rd_readTerm 16 tk nm rc rd_1 (fun r_6 nm_3 rc_4 rd_5 => ((¬ r_6 = 0 → wp_Rd_accept 58 tk rd_5 (fun r_8 rd_7 => ((r_8 = 0 → Rd_readClause_40 tk nm_3 rc_4 rd_7 K) ∧ (¬ r_8 = 0 → wp_Rd_readGoals tk nm_3 rc_4 rd_7 (fun r_15 nm_12 rc_13 rd_14 => ((¬ r_15 = 0 → Rd_readClause_40 tk nm_12 rc_13 rd_14 K) ∧ (r_15 = 0 → K 0 nm_12 rc_13 rd_14))))))) ∧ (r_6 = 0 → K 0 nm_3 rc_4 rd_5)))))))
def wp_Nam_areTooMany  (nm : Ob) (K : Int → Prop) : Prop :=
  ((nm.1 2) = 0 ∨ (nm.1 2) = 1) ∧ K (nm.1 2)
def wp_Nam_keep  (nm : Ob) (K : Ob → Prop) : Prop :=
  K (sI nm 0 (nm.1 1))
def wp_Nam_drop  (nm : Ob) (K : Ob → Prop) : Prop :=
  K (sI (sI nm 1 (nm.1 0)) 2 0)
def wp_Tok_placeAt (x1 : Int) (tk : Ob) (K : Int → Prop) : Prop :=
  ((x1 < 0 → K 0) ∧ (¬ x1 < 0 → (((tk.1 0) ≤ x1 → K 0) ∧ (¬ (tk.1 0) ≤ x1 → ((0 : Int) ≤ x1 ∧ x1 < (241 : Int)) ∧ K (tk.2.1 1 x1)))))
def Rd_outcome_36  (x1 : Int) (tk nm rd : Ob) (K : Int → Ob → Ob → Prop) : Prop :=
  wp_Nam_drop nm (fun nm_2 => ((x1 = 0 → wp_Tok_placeAt (rd.1 4) tk (fun r_3 => R32 ((-1) - r_3) ∧ K ((-1) - r_3) nm_2 rd)) ∧ (¬ x1 = 0 → K (-1000) nm_2 rd)))
def wp_Rd_outcome (x1 : Int) (x2 : Int) (tk nm rd : Ob) (K : Int → Ob → Ob → Prop) : Prop :=
  wp_Nam_areTooMany nm (fun r_1 => (0 : Int) ≤ (rd.1 5) ∧ (0 : Int) ≤ r_1 ∧ (((Int.toNat (rd.1 5) ||| Int.toNat r_1 : Nat) : Int) = 0 ∨ ((Int.toNat (rd.1 5) ||| Int.toNat r_1 : Nat) : Int) = 1) ∧ ((x1 = 0 → Rd_outcome_36 x1 tk nm (sI rd 5 ((Int.toNat (rd.1 5) ||| Int.toNat r_1 : Nat) : Int)) K) ∧ (¬ x1 = 0 → ((¬ ((Int.toNat (rd.1 5) ||| Int.toNat r_1 : Nat) : Int) = 0 → Rd_outcome_36 x1 tk nm (sI rd 5 ((Int.toNat (rd.1 5) ||| Int.toNat r_1 : Nat) : Int)) K) ∧ (((Int.toNat (rd.1 5) ||| Int.toNat r_1 : Nat) : Int) = 0 → wp_Nam_keep nm (fun nm_4 => K x2 nm_4 (sI rd 5 ((Int.toNat (rd.1 5) ||| Int.toNat r_1 : Nat) : Int))))))))
def Rd_readClauses_66  (x3 : Int) (s0 : Int) (s1 : Int) (tx tk nm rc rd : Ob) (K : Int → Ob → Ob → Ob → Ob → Prop) : Prop :=
  (0 : Int) ≤ s1 ∧ (0 : Int) ≤ s0 ∧ (((Int.toNat s1 ||| Int.toNat s0 : Nat) : Int) = 0 ∨ ((Int.toNat s1 ||| Int.toNat s0 : Nat) : Int) = 1) ∧ wp_Cod_partCount_r rc (fun r_5 => wp_Rd_outcome x3 r_5 tk nm (sI rd 5 ((Int.toNat s1 ||| Int.toNat s0 : Nat) : Int)) (fun r_8 nm_6 rd_7 => K r_8 tk nm_6 rc rd_7))
def Rd_readClauses_42  (x2 : Int) (x3 : Int) (tx tk nm rc rd : Ob) (K : Int → Ob → Ob → Ob → Ob → Prop) : Prop :=
  wp_Cod_partCount_r rc (fun r_4 => R32 (x2 + r_4) ∧ (((x2 + r_4) ≤ 24 → Rd_readClauses_66 x3 0 (rd.1 5) tx tk nm rc rd K) ∧ (¬ (x2 + r_4) ≤ 24 → Rd_readClauses_66 x3 1 (rd.1 5) tx tk nm rc rd K)))
def Rd_readClauses_10  : Nat → Int → Int → Int → Ob → Ob → Ob → Ob → Ob → (Int → Ob → Ob → Ob → Ob → Prop) → Prop
  | 0, _, _, _, _, _, _, _, _, _ => False
  | n10 + 1, x2, x3, x4, tx, tk, nm, rc, rd, K => ((240 ≤ x4 → Rd_readClauses_42 x2 x3 tx tk nm rc rd K) ∧ (¬ 240 ≤ x4 → ((x3 = 0 → Rd_readClauses_42 x2 x3 tx tk nm rc rd K) ∧ (¬ x3 = 0 → wp_Rd_isAt 32 tk rd (fun r_9 => ((¬ r_9 = 0 → Rd_readClauses_42 x2 x3 tx tk nm rc rd K) ∧ (r_9 = 0 → wp_Rd_readClause tk nm rc rd (fun r_13 nm_10 rc_11 rd_12 => R32 (x4 + 1) ∧ Rd_readClauses_10 n10 x2 r_13 (x4 + 1) tx tk nm_10 rc_11 rd_12 K))))))))
def wp_Rd_readClauses (x2 : Int) (tx tk nm rc rd : Ob) (K : Int → Ob → Ob → Ob → Ob → Prop) : Prop :=
  wp_Rd_start tx tk rc rd (fun tk_1 rc_2 rd_3 => ∃ n10, Rd_readClauses_10 n10 x2 1 0 tx tk_1 nm rc_2 rd_3 K)
def wp_Text_clear  (tx : Ob) (K : Ob → Prop) : Prop :=
  K (sI tx 0 0)
def wp_Rd_code   (K : Prop) : Prop :=
  K
def wp_Cod_endOf_r (x1 : Int) (rc : Ob) (K : Int → Prop) : Prop :=
  ((x1 < 0 → K 0) ∧ (¬ x1 < 0 → ((x1 < 24 → ((0 : Int) ≤ x1 ∧ x1 < (24 : Int)) ∧ K (rc.2.1 2 x1)) ∧ (¬ x1 < 24 → K 0))))
def wp_Cod_symbolAt_r (x1 : Int) (rc : Ob) (K : Int → Prop) : Prop :=
  ((x1 < 0 → K 0) ∧ (¬ x1 < 0 → (((rc.1 0) ≤ x1 → K 0) ∧ (¬ (rc.1 0) ≤ x1 → ((0 : Int) ≤ x1 ∧ x1 < (240 : Int)) ∧ K (rc.2.1 0 x1)))))
def Cod_add_p_32   (pr : Ob) (K : Int → Ob → Prop) : Prop :=
  R32 ((pr.1 0) - 1) ∧ K ((pr.1 0) - 1) pr
def wp_Cod_add_p (x1 : Int) (pr : Ob) (K : Int → Ob → Prop) : Prop :=
  ((960 ≤ (pr.1 0) → Cod_add_p_32 pr K) ∧ (¬ 960 ≤ (pr.1 0) → ((0 : Int) ≤ (pr.1 0) ∧ (pr.1 0) < (960 : Int)) ∧ R32 ((pr.1 0) + 1) ∧ Cod_add_p_32 (sI (sA pr 0 (pr.1 0) x1) 0 ((pr.1 0) + 1)) K))
def wp_Cod_startOf_p (x1 : Int) (pr : Ob) (K : Int → Prop) : Prop :=
  ((x1 < 1 → K 0) ∧ (¬ x1 < 1 → ((x1 ≤ 24 → R32 (x1 - 1) ∧ ((0 : Int) ≤ (x1 - 1) ∧ (x1 - 1) < (24 : Int)) ∧ K (pr.2.1 2 (x1 - 1))) ∧ (¬ x1 ≤ 24 → K 0))))
def Cod_measure_p_60 (L7 : Int → Int → Ob → Prop) (x1 : Int) (x2 : Int) (x3 : Int) (pr : Ob) (K : Ob → Prop) : Prop :=
  R32 (x3 - x2) ∧ ((0 : Int) ≤ x2 ∧ x2 < (960 : Int)) ∧ R32 (x2 + (-1)) ∧ L7 x1 (x2 + (-1)) (sA pr 1 x2 (x3 - x2))
def Cod_measure_p_30 (L7 : Int → Int → Ob → Prop) : Nat → Int → Int → Int → Int → Int → Ob → (Ob → Prop) → Prop
  | 0, _, _, _, _, _, _, _ => False
  | n30 + 1, x1, x2, x3, x4, x5, pr, K => ((x4 ≤ x5 → Cod_measure_p_60 L7 x1 x2 x3 pr K) ∧ (¬ x4 ≤ x5 → (((pr.1 0) ≤ x3 → Cod_measure_p_60 L7 x1 x2 x3 pr K) ∧ (¬ (pr.1 0) ≤ x3 → ((0 : Int) ≤ x3 ∧ x3 < (960 : Int)) ∧ R32 (x3 + (pr.2.1 1 x3)) ∧ R32 (x5 + 1) ∧ Cod_measure_p_30 L7 n30 x1 x2 (x3 + (pr.2.1 1 x3)) x4 (x5 + 1) pr K))))
def Cod_measure_p_7  : Nat → Int → Int → Ob → (Ob → Prop) → Prop
  | 0, _, _, _, _ => False
  | n7 + 1, x1, x2, pr, K => ((x2 < x1 → K pr) ∧ (¬ x2 < x1 → R32 (x2 + 1) ∧ ((0 : Int) ≤ x2 ∧ x2 < (960 : Int)) ∧ wp_P_argumentsOf (pr.2.1 0 x2) (fun r_1 => ∃ n30, Cod_measure_p_30 (fun x1 x2 pr' => Cod_measure_p_7 n7 x1 x2 pr' K) n30 x1 x2 (x2 + 1) r_1 0 pr K)))
def wp_Cod_measure_p (x1 : Int) (pr : Ob) (K : Ob → Prop) : Prop :=
  R32 ((pr.1 0) - 1) ∧ ∃ n7, Cod_measure_p_7 n7 x1 ((pr.1 0) - 1) pr K
def Cod_endPart_p_37   (pr : Ob) (K : Ob → Prop) : Prop :=
  R32 ((pr.1 1) + 1) ∧ K (sI pr 1 ((pr.1 1) + 1))
def wp_Cod_endPart_p  (pr : Ob) (K : Ob → Prop) : Prop :=
  ((24 ≤ (pr.1 1) → Cod_endPart_p_37 pr K) ∧ (¬ 24 ≤ (pr.1 1) → ((0 : Int) ≤ (pr.1 1) ∧ (pr.1 1) < (24 : Int)) ∧ wp_Cod_startOf_p (pr.1 1) (sA pr 2 (pr.1 1) (pr.1 0)) (fun r_1 => wp_Cod_measure_p r_1 (sA pr 2 (pr.1 1) (pr.1 0)) (fun pr_2 => Cod_endPart_p_37 pr_2 K))))
def Cod_addParts_r_41 (L2 : Int → Ob → Prop) (x2 : Int) (pr rc : Ob) (K : Ob → Prop) : Prop :=
  wp_Cod_endPart_p pr (fun pr_4 => R32 (x2 + 1) ∧ L2 (x2 + 1) pr_4)
def Cod_addParts_r_16 (L2 : Int → Ob → Prop) : Nat → Int → Int → Ob → Ob → (Ob → Prop) → Prop
  | 0, _, _, _, _, _ => False
  | n16 + 1, x2, x3, pr, rc, K => wp_Cod_endOf_r x2 rc (fun r_3 => ((r_3 ≤ x3 → Cod_addParts_r_41 L2 x2 pr rc K) ∧ (¬ r_3 ≤ x3 → wp_Cod_symbolAt_r x3 rc (fun r_5 => wp_Cod_add_p r_5 pr (fun r_7 pr_6 => R32 (x3 + 1) ∧ Cod_addParts_r_16 L2 n16 x2 (x3 + 1) pr_6 rc K)))))
def Cod_addParts_r_2  : Nat → Int → Ob → Ob → (Ob → Prop) → Prop
  | 0, _, _, _, _ => False
  | n2 + 1, x2, pr, rc, K => wp_Cod_partCount_r rc (fun r_1 => ((r_1 ≤ x2 → K pr) ∧ (¬ r_1 ≤ x2 → wp_Cod_startOf_r x2 rc (fun r_2 => ∃ n16, Cod_addParts_r_16 (fun x2 pr' => Cod_addParts_r_2 n2 x2 pr' rc K) n16 x2 r_2 pr rc K))))
def wp_Cod_addParts_r  (pr rc : Ob) (K : Ob → Prop) : Prop :=
  ∃ n2, Cod_addParts_r_2 n2 0 pr rc K
def wp_P_consult  (tx tk nm pr rc rd te go ch se wr : Ob) (K : Int → Ob → Ob → Ob → Ob → Ob → Ob → Ob → Ob → Ob → Ob → Ob → Prop) : Prop :=
  wp_Sea_end te go ch se wr (fun te_1 go_2 ch_3 se_4 wr_5 => wp_Cod_partCount_p pr (fun r_6 => wp_Rd_readClauses r_6 tx tk nm rc rd (fun r_11 tk_7 nm_8 rc_9 rd_10 => wp_Text_clear tx (fun tx_12 => ((r_11 ≤ 0 → K r_11 tx_12 tk_7 nm_8 pr rc_9 rd_10 te_1 go_2 ch_3 se_4 wr_5) ∧ (¬ r_11 ≤ 0 → wp_Rd_code (wp_Cod_addParts_r pr rc_9 (fun pr_13 => K r_11 tx_12 tk_7 nm_8 pr_13 rc_9 rd_10 te_1 go_2 ch_3 se_4 wr_5))))))))
def Rd_readQuestion_33  (s0 : Int) (tx tk nm rc rd : Ob) (K : Int → Ob → Ob → Ob → Ob → Prop) : Prop :=
  wp_Rd_outcome s0 (rd.1 0) tk nm rd (fun r_10 nm_8 rd_9 => K r_10 tk nm_8 rc rd_9)
def Rd_readQuestion_32   (tx tk nm rc rd : Ob) (K : Int → Ob → Ob → Ob → Ob → Prop) : Prop :=
  Rd_readQuestion_33 0 tx tk nm rc rd K
def wp_Rd_readQuestion  (tx tk nm rc rd : Ob) (K : Int → Ob → Ob → Ob → Ob → Prop) : Prop :=
  wp_Rd_start tx tk rc rd (fun tk_1 rc_2 rd_3 => wp_Rd_readGoals tk_1 nm rc_2 rd_3 (fun r_7 nm_4 rc_5 rd_6 => ((r_7 = 0 → Rd_readQuestion_32 tx tk_1 nm_4 rc_5 rd_6 K) ∧ (¬ r_7 = 0 → wp_Rd_endPart tk_1 rc_5 rd_6 (fun r_13 rc_11 rd_12 => ((r_13 = 0 → Rd_readQuestion_32 tx tk_1 nm_4 rc_11 rd_12 K) ∧ (¬ r_13 = 0 → wp_Rd_isAt 32 tk_1 rd_12 (fun r_14 => ((r_14 = 0 → Rd_readQuestion_32 tx tk_1 nm_4 rc_11 rd_12 K) ∧ (¬ r_14 = 0 → Rd_readQuestion_33 1 tx tk_1 nm_4 rc_11 rd_12 K))))))))))
def Arr_fill_26_5  : Nat → Int → Int → Int → Ob → (Ob → Prop) → Prop
  | 0, _, _, _, _, _ => False
  | n5 + 1, x1, x2, x3, te, K => ((x3 ≤ x2 → K te) ∧ (¬ x3 ≤ x2 → ((0 : Int) ≤ x2 ∧ x2 < (8 : Int)) ∧ R32 (x2 + 1) ∧ Arr_fill_26_5 n5 x1 (x2 + 1) x3 (sA te 6 x2 x1) K))
def wp_Arr_fill_26 (x1 : Int) (te : Ob) (K : Ob → Prop) : Prop :=
  ∃ n5, Arr_fill_26_5 n5 x1 0 8 te K
def wp_Cod_sizeAt_r (x1 : Int) (rc : Ob) (K : Int → Prop) : Prop :=
  ((x1 < 0 → K 1) ∧ (¬ x1 < 0 → (((rc.1 0) ≤ x1 → K 1) ∧ (¬ (rc.1 0) ≤ x1 → ((0 : Int) ≤ x1 ∧ x1 < (240 : Int)) ∧ K (rc.2.1 1 x1)))))
def wp_Ter_sameVariable (x1 : Int) (te : Ob) (K : Int → Ob → Prop) : Prop :=
  ((x1 < 8 → ((0 : Int) ≤ x1 ∧ x1 < (8 : Int)) ∧ ((¬ (te.2.1 6 x1) = (-1) → K (te.2.1 6 x1) te) ∧ ((te.2.1 6 x1) = (-1) → ((0 : Int) ≤ x1 ∧ x1 < (8 : Int)) ∧ K (te.2.1 6 x1) (sA te 6 x1 (te.1 0))))) ∧ (¬ x1 < 8 → K (-1) te))
def Ter_copy_r_115 (L27 : Int → Int → Int → Ob → Prop) (x3 : Int) (x4 : Int) (x5 : Int) (s0 : Int) (s1 : Int) (rc te : Ob) (K : Int → Ob → Prop) : Prop :=
  ((0 : Int) ≤ s1 ∧ s1 < (2440 : Int)) ∧ R32 ((te.1 0) + 1) ∧ R32 (x5 + 1) ∧ L27 x3 x4 (x5 + 1) (sI (sA te 2 s1 s0) 0 ((te.1 0) + 1))
def Ter_copy_r_71 (L27 : Int → Int → Int → Ob → Prop) (x3 : Int) (x4 : Int) (x5 : Int) (x6 : Int) (s0 : Int) (s1 : Int) (rc te : Ob) (K : Int → Ob → Prop) : Prop :=
  ((0 : Int) ≤ s1 ∧ s1 < (2440 : Int)) ∧ wp_Cod_sizeAt_r x5 rc (fun r_5 => ((0 : Int) ≤ (te.1 0) ∧ (te.1 0) < (2440 : Int)) ∧ (((-2) < x6 → Ter_copy_r_115 L27 x3 x4 x5 (-1) (te.1 0) rc (sA (sA te 0 s1 s0) 1 (te.1 0) r_5) K) ∧ (¬ (-2) < x6 → R32 ((-2) - x6) ∧ wp_Ter_sameVariable ((-2) - x6) (sA (sA te 0 s1 s0) 1 (te.1 0) r_5) (fun r_7 te_6 => Ter_copy_r_115 L27 x3 x4 x5 r_7 (te.1 0) rc te_6 K))))
def Ter_copy_r_27  : Nat → Int → Int → Int → Ob → Ob → (Int → Ob → Prop) → Prop
  | 0, _, _, _, _, _, _ => False
  | n27 + 1, x3, x4, x5, rc, te, K => ((x4 ≤ x5 → K x3 te) ∧ (¬ x4 ≤ x5 → ((2440 ≤ (te.1 0) → K x3 te) ∧ (¬ 2440 ≤ (te.1 0) → wp_Cod_symbolAt_r x5 rc (fun r_4 => ((0 ≤ r_4 → Ter_copy_r_71 (fun x3 x4 x5 te' => Ter_copy_r_27 n27 x3 x4 x5 rc te' K) x3 x4 x5 r_4 r_4 (te.1 0) rc te K) ∧ (¬ 0 ≤ r_4 → Ter_copy_r_71 (fun x3 x4 x5 te' => Ter_copy_r_27 n27 x3 x4 x5 rc te' K) x3 x4 x5 r_4 (-1) (te.1 0) rc te K)))))))
def wp_Ter_copy_r (x2 : Int) (rc te : Ob) (K : Int → Ob → Prop) : Prop :=
  wp_Arr_fill_26 (-1) te (fun te_1 => wp_Cod_endOf_r x2 rc (fun r_2 => wp_Cod_startOf_r x2 rc (fun r_3 => ∃ n27, Ter_copy_r_27 n27 (te_1.1 0) r_2 r_3 rc te_1 K)))
def wp_Ter_cellCount  (te : Ob) (K : Int → Prop) : Prop :=
  K (te.1 0)
def wp_Ter_sizeAt (x1 : Int) (te : Ob) (K : Int → Prop) : Prop :=
  ((x1 < 0 → K 1) ∧ (¬ x1 < 0 → (((te.1 0) ≤ x1 → K 1) ∧ (¬ (te.1 0) ≤ x1 → ((0 : Int) ≤ x1 ∧ x1 < (2440 : Int)) ∧ K (te.2.1 1 x1)))))
def Goa_putBefore_99 (L15 : Int → Int → Int → Int → Int → Int → Ob → Prop) (x3 : Int) (x4 : Int) (x5 : Int) (x7 : Int) (x8 : Int) (te go : Ob) (K : Ob → Prop) : Prop :=
  R32 ((go.1 0) + 1) ∧ wp_Ter_sizeAt x7 te (fun r_1 => R32 (x7 + r_1) ∧ R32 (x8 + 1) ∧ L15 x3 x4 x5 (go.1 0) (x7 + r_1) (x8 + 1) (sI go 0 ((go.1 0) + 1)))
def Goa_putBefore_15  : Nat → Int → Int → Int → Int → Int → Int → Ob → Ob → (Ob → Prop) → Prop
  | 0, _, _, _, _, _, _, _, _, _ => False
  | n15 + 1, x3, x4, x5, x6, x7, x8, te, go, K => ((8 ≤ x8 → K go) ∧ (¬ 8 ≤ x8 → ((x3 ≤ x7 → K go) ∧ (¬ x3 ≤ x7 → ((488 ≤ (go.1 0) → K go) ∧ (¬ 488 ≤ (go.1 0) → ((0 : Int) ≤ (go.1 0) ∧ (go.1 0) < (488 : Int)) ∧ ((0 : Int) ≤ (go.1 0) ∧ (go.1 0) < (488 : Int)) ∧ ((0 : Int) ≤ (go.1 0) ∧ (go.1 0) < (488 : Int)) ∧ ((¬ x6 = (-1) → ((0 : Int) ≤ x6 ∧ x6 < (488 : Int)) ∧ Goa_putBefore_99 (fun x3 x4 x5 x6 x7 x8 go' => Goa_putBefore_15 n15 x3 x4 x5 x6 x7 x8 te go' K) x3 x4 x5 x7 x8 te (sA (sA (sA (sA go 0 (go.1 0) x7) 1 (go.1 0) x4) 2 (go.1 0) x5) 2 x6 (go.1 0)) K) ∧ (x6 = (-1) → Goa_putBefore_99 (fun x3 x4 x5 x6 x7 x8 go' => Goa_putBefore_15 n15 x3 x4 x5 x6 x7 x8 te go' K) x3 x4 x5 x7 x8 te (sI (sA (sA (sA go 0 (go.1 0) x7) 1 (go.1 0) x4) 2 (go.1 0) x5) 1 (go.1 0)) K))))))))
def wp_Goa_putBefore (x2 : Int) (x3 : Int) (x4 : Int) (te go : Ob) (K : Ob → Prop) : Prop :=
  ∃ n15, Goa_putBefore_15 n15 x3 x4 (go.1 1) (-1) x2 0 te go K
def wp_Ter_variableCell (x1 : Int) (te : Ob) (K : Int → Prop) : Prop :=
  ((x1 < 0 → K 0) ∧ (¬ x1 < 0 → ((8 ≤ x1 → K 0) ∧ (¬ 8 ≤ x1 → ((0 : Int) ≤ x1 ∧ x1 < (8 : Int)) ∧ (((te.2.1 6 x1) = (-1) → K 0) ∧ (¬ (te.2.1 6 x1) = (-1) → ((0 : Int) ≤ x1 ∧ x1 < (8 : Int)) ∧ K (te.2.1 6 x1)))))))
def Sea_begin_70   (rc te go se : Ob) (K : Ob → Ob → Ob → Prop) : Prop :=
  K te go (sI se 1 2)
def Sea_begin_42  : Nat → Int → Ob → Ob → Ob → Ob → (Ob → Ob → Ob → Prop) → Prop
  | 0, _, _, _, _, _, _ => False
  | n42 + 1, x3, rc, te, go, se, K => (((se.1 0) ≤ x3 → Sea_begin_70 rc te go se K) ∧ (¬ (se.1 0) ≤ x3 → wp_Ter_variableCell x3 te (fun r_5 => ((0 : Int) ≤ x3 ∧ x3 < (8 : Int)) ∧ R32 (x3 + 1) ∧ Sea_begin_42 n42 (x3 + 1) rc te go (sA se 0 x3 r_5) K)))
def wp_Sea_begin (x2 : Int) (rc te go se : Ob) (K : Ob → Ob → Ob → Prop) : Prop :=
  wp_Ter_copy_r 0 rc te (fun r_2 te_1 => wp_Ter_cellCount te_1 (fun r_3 => wp_Goa_putBefore 0 r_3 0 te_1 go (fun go_4 => ∃ n42, Sea_begin_42 n42 0 rc te_1 go_4 (sI se 0 (min x2 (8 : Int))) K)))
def wp_P_ask  (tx tk nm rc rd te go ch se wr : Ob) (K : Int → Ob → Ob → Ob → Ob → Ob → Ob → Ob → Ob → Ob → Ob → Prop) : Prop :=
  wp_Sea_end te go ch se wr (fun te_1 go_2 ch_3 se_4 wr_5 => wp_Rd_readQuestion tx tk nm rc rd (fun r_10 tk_6 nm_7 rc_8 rd_9 => wp_Text_clear tx (fun tx_11 => ((r_10 < 0 → K r_10 tx_11 tk_6 nm_7 rc_8 rd_9 te_1 go_2 ch_3 se_4 wr_5) ∧ (¬ r_10 < 0 → wp_Rd_code (wp_Sea_begin r_10 rc_8 te_1 go_2 se_4 (fun te_12 go_13 se_14 => K r_10 tx_11 tk_6 nm_7 rc_8 rd_9 te_12 go_13 ch_3 se_14 wr_5)))))))
def wp_Cho_count  (ch : Ob) (K : Int → Prop) : Prop :=
  K (ch.1 0)
def wp_Cho_goBack  (te go ch : Ob) (K : Int → Ob → Ob → Prop) : Prop :=
  R32 ((ch.1 0) - 1) ∧ ((0 : Int) ≤ (max ((ch.1 0) - 1) (0 : Int)) ∧ (max ((ch.1 0) - 1) (0 : Int)) < (60 : Int)) ∧ ((0 : Int) ≤ (max ((ch.1 0) - 1) (0 : Int)) ∧ (max ((ch.1 0) - 1) (0 : Int)) < (60 : Int)) ∧ wp_Goa_goBack (ch.2.1 0 (max ((ch.1 0) - 1) (0 : Int))) (ch.2.1 1 (max ((ch.1 0) - 1) (0 : Int))) go (fun go_1 => ((0 : Int) ≤ (max ((ch.1 0) - 1) (0 : Int)) ∧ (max ((ch.1 0) - 1) (0 : Int)) < (60 : Int)) ∧ ((0 : Int) ≤ (max ((ch.1 0) - 1) (0 : Int)) ∧ (max ((ch.1 0) - 1) (0 : Int)) < (60 : Int)) ∧ wp_Ter_goBack (ch.2.1 2 (max ((ch.1 0) - 1) (0 : Int))) (ch.2.1 3 (max ((ch.1 0) - 1) (0 : Int))) te (fun te_2 => ((0 : Int) ≤ (max ((ch.1 0) - 1) (0 : Int)) ∧ (max ((ch.1 0) - 1) (0 : Int)) < (60 : Int)) ∧ K (ch.2.1 4 (max ((ch.1 0) - 1) (0 : Int))) te_2 go_1))
def wp_Goa_first  (go : Ob) (K : Int → Prop) : Prop :=
  K (go.1 1)
def wp_Goa_termOf (x1 : Int) (go : Ob) (K : Int → Prop) : Prop :=
  ((x1 < 0 → K 0) ∧ (¬ x1 < 0 → (((go.1 0) ≤ x1 → K 0) ∧ (¬ (go.1 0) ≤ x1 → ((0 : Int) ≤ x1 ∧ x1 < (488 : Int)) ∧ K (go.2.1 0 x1)))))
def wp_Goa_after (x1 : Int) (go : Ob) (K : Int → Prop) : Prop :=
  ((x1 < 0 → K (-1)) ∧ (¬ x1 < 0 → (((go.1 0) ≤ x1 → K (-1)) ∧ (¬ (go.1 0) ≤ x1 → ((0 : Int) ≤ x1 ∧ x1 < (488 : Int)) ∧ K (go.2.1 2 x1)))))
def wp_Goa_takeFirst  (go : Ob) (K : Ob → Prop) : Prop :=
  wp_Goa_after (go.1 1) go (fun r_1 => K (sI go 1 r_1))
def Cho_firstOf_2  : Nat → Int → Int → (Int → Prop) → Prop
  | 0, _, _, _ => False
  | n2 + 1, x0, x1, K => ((23 ≤ x1 → K x1) ∧ (¬ 23 ≤ x1 → (0 : Int) ≤ x0 ∧ (0 ≤ x1 ∧ x1 < 32) ∧ (0 : Int) ≤ ((x0 : Int) / 2 ^ (x1).toNat) ∧ (0 : Int) ≤ 1 ∧ ((¬ ((Int.toNat ((x0 : Int) / 2 ^ (x1).toNat) &&& Int.toNat 1 : Nat) : Int) = 0 → K x1) ∧ (((Int.toNat ((x0 : Int) / 2 ^ (x1).toNat) &&& Int.toNat 1 : Nat) : Int) = 0 → R32 (x1 + 1) ∧ Cho_firstOf_2 n2 x0 (x1 + 1) K))))
def wp_Cho_firstOf (x0 : Int)  (K : Int → Prop) : Prop :=
  ∃ n2, Cho_firstOf_2 n2 x0 0 K
def wp_Cho_withoutFirst (x0 : Int)  (K : Int → Prop) : Prop :=
  R32 (x0 - 1) ∧ (0 : Int) ≤ x0 ∧ (0 : Int) ≤ (x0 - 1) ∧ K ((Int.toNat x0 &&& Int.toNat (x0 - 1) : Nat) : Int)
def wp_Cho_takeCandidate  (ch : Ob) (K : Int → Ob → Prop) : Prop :=
  R32 ((ch.1 0) - 1) ∧ ((0 : Int) ≤ (max ((ch.1 0) - 1) (0 : Int)) ∧ (max ((ch.1 0) - 1) (0 : Int)) < (60 : Int)) ∧ wp_Cho_firstOf (ch.2.1 5 (max ((ch.1 0) - 1) (0 : Int))) (fun r_1 => ((0 : Int) ≤ (max ((ch.1 0) - 1) (0 : Int)) ∧ (max ((ch.1 0) - 1) (0 : Int)) < (60 : Int)) ∧ wp_Cho_withoutFirst (ch.2.1 5 (max ((ch.1 0) - 1) (0 : Int))) (fun r_2 => ((0 : Int) ≤ (max ((ch.1 0) - 1) (0 : Int)) ∧ (max ((ch.1 0) - 1) (0 : Int)) < (60 : Int)) ∧ ((0 : Int) ≤ (max ((ch.1 0) - 1) (0 : Int)) ∧ (max ((ch.1 0) - 1) (0 : Int)) < (60 : Int)) ∧ ((¬ ((sA ch 5 (max ((ch.1 0) - 1) (0 : Int)) r_2).2.1 5 (max ((ch.1 0) - 1) (0 : Int))) = 0 → K r_1 (sA ch 5 (max ((ch.1 0) - 1) (0 : Int)) r_2)) ∧ (((sA ch 5 (max ((ch.1 0) - 1) (0 : Int)) r_2).2.1 5 (max ((ch.1 0) - 1) (0 : Int))) = 0 → K r_1 (sI (sA ch 5 (max ((ch.1 0) - 1) (0 : Int)) r_2) 0 (max ((ch.1 0) - 1) (0 : Int)))))))
def wp_Sea_takeChoice  (te go ch se : Ob) (K : Int → Ob → Ob → Ob → Ob → Prop) : Prop :=
  wp_Cho_goBack te go ch (fun r_3 te_1 go_2 => wp_Goa_first go_2 (fun r_4 => wp_Goa_termOf r_4 go_2 (fun r_5 => wp_Goa_takeFirst go_2 (fun go_6 => wp_Cho_count ch (fun r_7 => R32 (r_7 - 1) ∧ wp_Cho_takeCandidate ch (fun r_9 ch_8 => K r_9 te_1 go_6 ch_8 (sI (sI (sI (sI se 2 0) 3 r_3) 5 r_5) 6 (r_7 - 1))))))))
def wp_Cod_endOf_p (x1 : Int) (pr : Ob) (K : Int → Prop) : Prop :=
  ((x1 < 0 → K 0) ∧ (¬ x1 < 0 → ((x1 < 24 → ((0 : Int) ≤ x1 ∧ x1 < (24 : Int)) ∧ K (pr.2.1 2 x1)) ∧ (¬ x1 < 24 → K 0))))
def wp_Cod_symbolAt_p (x1 : Int) (pr : Ob) (K : Int → Prop) : Prop :=
  ((x1 < 0 → K 0) ∧ (¬ x1 < 0 → (((pr.1 0) ≤ x1 → K 0) ∧ (¬ (pr.1 0) ≤ x1 → ((0 : Int) ≤ x1 ∧ x1 < (960 : Int)) ∧ K (pr.2.1 0 x1)))))
def wp_Cod_sizeAt_p (x1 : Int) (pr : Ob) (K : Int → Prop) : Prop :=
  ((x1 < 0 → K 1) ∧ (¬ x1 < 0 → (((pr.1 0) ≤ x1 → K 1) ∧ (¬ (pr.1 0) ≤ x1 → ((0 : Int) ≤ x1 ∧ x1 < (960 : Int)) ∧ K (pr.2.1 1 x1)))))
def Ter_copy_p_115 (L27 : Int → Int → Int → Ob → Prop) (x3 : Int) (x4 : Int) (x5 : Int) (s0 : Int) (s1 : Int) (pr te : Ob) (K : Int → Ob → Prop) : Prop :=
  ((0 : Int) ≤ s1 ∧ s1 < (2440 : Int)) ∧ R32 ((te.1 0) + 1) ∧ R32 (x5 + 1) ∧ L27 x3 x4 (x5 + 1) (sI (sA te 2 s1 s0) 0 ((te.1 0) + 1))
def Ter_copy_p_71 (L27 : Int → Int → Int → Ob → Prop) (x3 : Int) (x4 : Int) (x5 : Int) (x6 : Int) (s0 : Int) (s1 : Int) (pr te : Ob) (K : Int → Ob → Prop) : Prop :=
  ((0 : Int) ≤ s1 ∧ s1 < (2440 : Int)) ∧ wp_Cod_sizeAt_p x5 pr (fun r_5 => ((0 : Int) ≤ (te.1 0) ∧ (te.1 0) < (2440 : Int)) ∧ (((-2) < x6 → Ter_copy_p_115 L27 x3 x4 x5 (-1) (te.1 0) pr (sA (sA te 0 s1 s0) 1 (te.1 0) r_5) K) ∧ (¬ (-2) < x6 → R32 ((-2) - x6) ∧ wp_Ter_sameVariable ((-2) - x6) (sA (sA te 0 s1 s0) 1 (te.1 0) r_5) (fun r_7 te_6 => Ter_copy_p_115 L27 x3 x4 x5 r_7 (te.1 0) pr te_6 K))))
def Ter_copy_p_27  : Nat → Int → Int → Int → Ob → Ob → (Int → Ob → Prop) → Prop
  | 0, _, _, _, _, _, _ => False
  | n27 + 1, x3, x4, x5, pr, te, K => ((x4 ≤ x5 → K x3 te) ∧ (¬ x4 ≤ x5 → ((2440 ≤ (te.1 0) → K x3 te) ∧ (¬ 2440 ≤ (te.1 0) → wp_Cod_symbolAt_p x5 pr (fun r_4 => ((0 ≤ r_4 → Ter_copy_p_71 (fun x3 x4 x5 te' => Ter_copy_p_27 n27 x3 x4 x5 pr te' K) x3 x4 x5 r_4 r_4 (te.1 0) pr te K) ∧ (¬ 0 ≤ r_4 → Ter_copy_p_71 (fun x3 x4 x5 te' => Ter_copy_p_27 n27 x3 x4 x5 pr te' K) x3 x4 x5 r_4 (-1) (te.1 0) pr te K)))))))
def wp_Ter_copy_p (x2 : Int) (pr te : Ob) (K : Int → Ob → Prop) : Prop :=
  wp_Arr_fill_26 (-1) te (fun te_1 => wp_Cod_endOf_p x2 pr (fun r_2 => wp_Cod_startOf_p x2 pr (fun r_3 => ∃ n27, Ter_copy_p_27 n27 (te_1.1 0) r_2 r_3 pr te_1 K)))
def wp_Ter_push (x1 : Int) (te : Ob) (K : Ob → Prop) : Prop :=
  ((512 ≤ (te.1 2) → K te) ∧ (¬ 512 ≤ (te.1 2) → ((0 : Int) ≤ (te.1 2) ∧ (te.1 2) < (512 : Int)) ∧ R32 ((te.1 2) + 1) ∧ K (sI (sA te 5 (te.1 2) x1) 2 ((te.1 2) + 1))))
def Ter_pop_17   (te : Ob) (K : Int → Ob → Prop) : Prop :=
  ((0 : Int) ≤ (te.1 2) ∧ (te.1 2) < (512 : Int)) ∧ K (te.2.1 5 (te.1 2)) te
def wp_Ter_pop  (te : Ob) (K : Int → Ob → Prop) : Prop :=
  (((te.1 2) ≤ 0 → Ter_pop_17 te K) ∧ (¬ (te.1 2) ≤ 0 → R32 ((te.1 2) - 1) ∧ Ter_pop_17 (sI te 2 ((te.1 2) - 1)) K))
def wp_Ter_nextStanding (x1 : Int) (te : Ob) (K : Int → Prop) : Prop :=
  ((x1 < 0 → K (-1)) ∧ (¬ x1 < 0 → (((te.1 0) ≤ x1 → K (-1)) ∧ (¬ (te.1 0) ≤ x1 → ((0 : Int) ≤ x1 ∧ x1 < (2440 : Int)) ∧ K (te.2.1 2 x1)))))
def Ter_standing_4  : Nat → Int → Int → Ob → (Int → Prop) → Prop
  | 0, _, _, _, _ => False
  | n4 + 1, x2, x3, te, K => ((2440 ≤ x3 → K x2) ∧ (¬ 2440 ≤ x3 → wp_Ter_nextStanding x2 te (fun r_1 => ((r_1 = (-1) → K x2) ∧ (¬ r_1 = (-1) → wp_Ter_nextStanding x2 te (fun r_2 => R32 (x3 + 1) ∧ Ter_standing_4 n4 r_2 (x3 + 1) te K))))))
def wp_Ter_standing (x1 : Int) (te : Ob) (K : Int → Prop) : Prop :=
  ∃ n4, Ter_standing_4 n4 x1 0 te K
def wp_Ter_symbolAt (x1 : Int) (te : Ob) (K : Int → Prop) : Prop :=
  ((x1 < 0 → K 0) ∧ (¬ x1 < 0 → (((te.1 0) ≤ x1 → K 0) ∧ (¬ (te.1 0) ≤ x1 → ((0 : Int) ≤ x1 ∧ x1 < (2440 : Int)) ∧ K (te.2.1 0 x1)))))
def wp_Ter_letStand (x1 : Int) (x2 : Int) (te : Ob) (K : Ob → Prop) : Prop :=
  ((2440 ≤ (te.1 1) → K te) ∧ (¬ 2440 ≤ (te.1 1) → ((x1 < 0 → K te) ∧ (¬ x1 < 0 → (((te.1 0) ≤ x1 → K te) ∧ (¬ (te.1 0) ≤ x1 → ((0 : Int) ≤ x1 ∧ x1 < (2440 : Int)) ∧ ((0 : Int) ≤ (te.1 1) ∧ (te.1 1) < (2440 : Int)) ∧ R32 ((te.1 1) + 1) ∧ K (sI (sA (sA te 2 x1 x2) 4 (te.1 1) x1) 1 ((te.1 1) + 1))))))))
def Ter_pushPairs_22  : Nat → Int → Int → Int → Int → Ob → (Ob → Prop) → Prop
  | 0, _, _, _, _, _, _ => False
  | n22 + 1, x3, x4, x5, x6, te, K => ((x3 ≤ x6 → K te) ∧ (¬ x3 ≤ x6 → wp_Ter_push x4 te (fun te_3 => wp_Ter_push x5 te_3 (fun te_4 => wp_Ter_sizeAt x4 te_4 (fun r_5 => R32 (x4 + r_5) ∧ wp_Ter_sizeAt x5 te_4 (fun r_6 => R32 (x5 + r_6) ∧ R32 (x6 + 1) ∧ Ter_pushPairs_22 n22 x3 (x4 + r_5) (x5 + r_6) (x6 + 1) te_4 K))))))
def wp_Ter_pushPairs (x1 : Int) (x2 : Int) (te : Ob) (K : Ob → Prop) : Prop :=
  wp_Ter_symbolAt x1 te (fun r_1 => wp_P_argumentsOf r_1 (fun r_2 => R32 (x1 + 1) ∧ R32 (x2 + 1) ∧ ∃ n22, Ter_pushPairs_22 n22 r_2 (x1 + 1) (x2 + 1) 0 te K))
def Ter_join_139 (L17 : Int → Ob → Prop) (x3 : Int) (te : Ob) (K : Int → Ob → Prop) : Prop :=
  R32 (x3 + 1) ∧ L17 (x3 + 1) te
def Ter_join_17  : Nat → Int → Ob → (Int → Ob → Prop) → Prop
  | 0, _, _, _ => False
  | n17 + 1, x3, te, K => ((1000000 ≤ x3 → K 1 te) ∧ (¬ 1000000 ≤ x3 → (((te.1 2) ≤ 1 → K 1 te) ∧ (¬ (te.1 2) ≤ 1 → wp_Ter_pop te (fun r_4 te_3 => wp_Ter_standing r_4 te_3 (fun r_5 => wp_Ter_pop te_3 (fun r_7 te_6 => wp_Ter_standing r_7 te_6 (fun r_8 => ((¬ r_5 = r_8 → wp_Ter_symbolAt r_5 te_6 (fun r_9 => ((¬ r_9 = (-1) → wp_Ter_symbolAt r_8 te_6 (fun r_10 => ((¬ r_10 = (-1) → wp_Ter_symbolAt r_5 te_6 (fun r_11 => wp_Ter_symbolAt r_8 te_6 (fun r_12 => ((¬ r_11 = r_12 → K 0 te_6) ∧ (r_11 = r_12 → wp_Ter_letStand r_5 r_8 te_6 (fun te_13 => wp_Ter_pushPairs r_5 r_8 te_13 (fun te_14 => Ter_join_139 (fun x3 te' => Ter_join_17 n17 x3 te' K) x3 te_14 K))))))) ∧ (r_10 = (-1) → wp_Ter_letStand r_8 r_5 te_6 (fun te_15 => Ter_join_139 (fun x3 te' => Ter_join_17 n17 x3 te' K) x3 te_15 K))))) ∧ (r_9 = (-1) → wp_Ter_letStand r_5 r_8 te_6 (fun te_16 => Ter_join_139 (fun x3 te' => Ter_join_17 n17 x3 te' K) x3 te_16 K))))) ∧ (r_5 = r_8 → Ter_join_139 (fun x3 te' => Ter_join_17 n17 x3 te' K) x3 te_6 K))))))))))
def wp_Ter_join (x1 : Int) (x2 : Int) (te : Ob) (K : Int → Ob → Prop) : Prop :=
  wp_Ter_push x1 (sI te 2 0) (fun te_1 => wp_Ter_push x2 te_1 (fun te_2 => ∃ n17, Ter_join_17 n17 0 te_2 K))
def wp_Ter_mark (x1 : Int) (x2 : Int) (te : Ob) (K : Ob → Prop) : Prop :=
  ((x1 < 0 → K te) ∧ (¬ x1 < 0 → (((te.1 0) ≤ x1 → K te) ∧ (¬ (te.1 0) ≤ x1 → ((0 : Int) ≤ x1 ∧ x1 < (2440 : Int)) ∧ K (sA te 3 x1 x2)))))
def wp_Ter_markAt (x1 : Int) (te : Ob) (K : Int → Prop) : Prop :=
  ((x1 < 0 → K 0) ∧ (¬ x1 < 0 → (((te.1 0) ≤ x1 → K 0) ∧ (¬ (te.1 0) ≤ x1 → ((0 : Int) ≤ x1 ∧ x1 < (2440 : Int)) ∧ K (te.2.1 3 x1)))))
def Ter_pushArguments_16  : Nat → Int → Int → Int → Ob → (Ob → Prop) → Prop
  | 0, _, _, _, _, _ => False
  | n16 + 1, x2, x3, x4, te, K => ((x2 ≤ x4 → K te) ∧ (¬ x2 ≤ x4 → wp_Ter_push x3 te (fun te_3 => wp_Ter_sizeAt x3 te_3 (fun r_4 => R32 (x3 + r_4) ∧ R32 (x4 + 1) ∧ Ter_pushArguments_16 n16 x2 (x3 + r_4) (x4 + 1) te_3 K))))
def wp_Ter_pushArguments (x1 : Int) (te : Ob) (K : Ob → Prop) : Prop :=
  wp_Ter_symbolAt x1 te (fun r_1 => wp_P_argumentsOf r_1 (fun r_2 => R32 (x1 + 1) ∧ ∃ n16, Ter_pushArguments_16 n16 r_2 (x1 + 1) 0 te K))
def Ter_isCircular_120 (L32 : Int → Int → Int → Ob → Prop) (x2 : Int) (x3 : Int) (x4 : Int) (te : Ob) (K : Int → Ob → Prop) : Prop :=
  R32 (x4 + 1) ∧ L32 x2 x3 (x4 + 1) te
def Ter_isCircular_32  : Nat → Int → Int → Int → Ob → (Int → Ob → Prop) → Prop
  | 0, _, _, _, _, _ => False
  | n32 + 1, x2, x3, x4, te, K => ((1000000 ≤ x4 → K 0 te) ∧ (¬ 1000000 ≤ x4 → (((te.1 2) ≤ 0 → K 0 te) ∧ (¬ (te.1 2) ≤ 0 → wp_Ter_pop te (fun r_3 te_2 => ((0 ≤ r_3 → wp_Ter_standing r_3 te_2 (fun r_4 => wp_Ter_markAt r_4 te_2 (fun r_5 => ((¬ r_5 = x2 → wp_Ter_markAt r_4 te_2 (fun r_6 => ((r_6 = x3 → Ter_isCircular_120 (fun x2 x3 x4 te' => Ter_isCircular_32 n32 x2 x3 x4 te' K) x2 x3 x4 te_2 K) ∧ (¬ r_6 = x3 → wp_Ter_mark r_4 x2 te_2 (fun te_7 => R32 ((-1) - r_4) ∧ wp_Ter_push ((-1) - r_4) te_7 (fun te_8 => wp_Ter_pushArguments r_4 te_8 (fun te_9 => Ter_isCircular_120 (fun x2 x3 x4 te' => Ter_isCircular_32 n32 x2 x3 x4 te' K) x2 x3 x4 te_9 K))))))) ∧ (r_5 = x2 → K 1 te_2))))) ∧ (¬ 0 ≤ r_3 → R32 ((-1) - r_3) ∧ wp_Ter_mark ((-1) - r_3) x3 te_2 (fun te_10 => Ter_isCircular_120 (fun x2 x3 x4 te' => Ter_isCircular_32 n32 x2 x3 x4 te' K) x2 x3 x4 te_10 K))))))))
def wp_Ter_isCircular (x1 : Int) (te : Ob) (K : Int → Ob → Prop) : Prop :=
  R32 ((te.1 3) + 1) ∧ R32 ((te.1 3) + 2) ∧ wp_Ter_push x1 (sI (sI te 3 ((te.1 3) + 2)) 2 0) (fun te_1 => ∃ n32, Ter_isCircular_32 n32 ((te.1 3) + 1) ((te.1 3) + 2) 0 te_1 K)
def Ter_countSymbols_12  : Nat → Int → Int → Ob → (Int → Ob → Prop) → Prop
  | 0, _, _, _, _ => False
  | n12 + 1, x2, x3, te, K => ((x2 < x3 → K x3 te) ∧ (¬ x2 < x3 → (((te.1 2) ≤ 0 → K x3 te) ∧ (¬ (te.1 2) ≤ 0 → wp_Ter_pop te (fun r_3 te_2 => wp_Ter_standing r_3 te_2 (fun r_4 => wp_Ter_pushArguments r_4 te_2 (fun te_5 => R32 (x3 + 1) ∧ Ter_countSymbols_12 n12 x2 (x3 + 1) te_5 K)))))))
def wp_Ter_countSymbols (x1 : Int) (x2 : Int) (te : Ob) (K : Int → Ob → Prop) : Prop :=
  wp_Ter_push x1 (sI te 2 0) (fun te_1 => ∃ n12, Ter_countSymbols_12 n12 x2 0 te_1 K)
def Sea_isLarge_99  (x1 : Int) (te go se : Ob) (K : Int → Ob → Prop) : Prop :=
  ((0 ≤ x1 → K 0 te) ∧ (¬ 0 ≤ x1 → K 1 te))
def Sea_isLarge_64  : Nat → Int → Int → Ob → Ob → Ob → (Int → Ob → Prop) → Prop
  | 0, _, _, _, _, _, _ => False
  | n64 + 1, x1, x3, te, go, se, K => (((se.1 0) ≤ x3 → Sea_isLarge_99 x1 te go se K) ∧ (¬ (se.1 0) ≤ x3 → ((x1 < 0 → Sea_isLarge_99 x1 te go se K) ∧ (¬ x1 < 0 → ((0 : Int) ≤ x3 ∧ x3 < (8 : Int)) ∧ wp_Ter_countSymbols (se.2.1 0 x3) x1 te (fun r_3 te_2 => R32 (x1 - r_3) ∧ R32 (x3 + 1) ∧ Sea_isLarge_64 n64 (x1 - r_3) (x3 + 1) te_2 go se K)))))
def Sea_isLarge_62  (x1 : Int) (te go se : Ob) (K : Int → Ob → Prop) : Prop :=
  ∃ n64, Sea_isLarge_64 n64 x1 0 te go se K
def Sea_isLarge_13  : Nat → Int → Int → Int → Ob → Ob → Ob → (Int → Ob → Prop) → Prop
  | 0, _, _, _, _, _, _, _ => False
  | n13 + 1, x1, x2, x3, te, go, se, K => ((120 < x3 → Sea_isLarge_62 x1 te go se K) ∧ (¬ 120 < x3 → ((x1 < 0 → Sea_isLarge_62 x1 te go se K) ∧ (¬ x1 < 0 → ((x2 = (-1) → Sea_isLarge_62 x1 te go se K) ∧ (¬ x2 = (-1) → wp_Goa_termOf x2 go (fun r_4 => wp_Ter_countSymbols r_4 x1 te (fun r_6 te_5 => R32 (x1 - r_6) ∧ wp_Goa_after x2 go (fun r_7 => R32 (x3 + 1) ∧ Sea_isLarge_13 n13 (x1 - r_6) r_7 (x3 + 1) te_5 go se K)))))))))
def wp_Sea_isLarge  (te go se : Ob) (K : Int → Ob → Prop) : Prop :=
  wp_Goa_first go (fun r_1 => ∃ n13, Sea_isLarge_13 n13 120 r_1 0 te go se K)
def Sea_resolve_62   (pr te go se : Ob) (K : Ob → Ob → Ob → Prop) : Prop :=
  K te go (sI se 2 1)
def wp_Sea_resolve (x1 : Int) (pr te go se : Ob) (K : Ob → Ob → Ob → Prop) : Prop :=
  R32 ((se.1 3) + 1) ∧ R32 ((se.1 4) + 1) ∧ wp_Ter_copy_p x1 pr te (fun r_2 te_1 => wp_Ter_join (se.1 5) r_2 te_1 (fun r_4 te_3 => ((r_4 = 0 → Sea_resolve_62 pr te_3 go (sI (sI se 3 ((se.1 3) + 1)) 4 ((se.1 4) + 1)) K) ∧ (¬ r_4 = 0 → wp_Ter_isCircular (se.1 5) te_3 (fun r_6 te_5 => ((r_6 = 0 → wp_Ter_sizeAt r_2 te_5 (fun r_7 => R32 (r_2 + r_7) ∧ wp_Ter_cellCount te_5 (fun r_8 => wp_Goa_putBefore (r_2 + r_7) r_8 (se.1 6) te_5 go (fun go_9 => wp_Sea_isLarge te_5 go_9 (sI (sI se 3 ((se.1 3) + 1)) 4 ((se.1 4) + 1)) (fun r_11 te_10 => ((r_11 = 0 → K te_10 go_9 (sI (sI se 3 ((se.1 3) + 1)) 4 ((se.1 4) + 1))) ∧ (¬ r_11 = 0 → K te_10 go_9 (sI (sI (sI se 3 ((se.1 3) + 1)) 4 ((se.1 4) + 1)) 1 4)))))))) ∧ (¬ r_6 = 0 → Sea_resolve_62 pr te_5 go (sI (sI se 3 ((se.1 3) + 1)) 4 ((se.1 4) + 1)) K)))))))
def wp_Goa_cutOf (x1 : Int) (go : Ob) (K : Int → Prop) : Prop :=
  ((x1 < 0 → K 0) ∧ (¬ x1 < 0 → (((go.1 0) ≤ x1 → K 0) ∧ (¬ (go.1 0) ≤ x1 → ((0 : Int) ≤ x1 ∧ x1 < (488 : Int)) ∧ K (go.2.1 1 x1)))))
def wp_Nam_wordOf (x1 : Int) (nm : Ob) (K : Nat → Prop) : Prop :=
  0 ≤ x1 ∧ R32 ((x1 / 8) - 3) ∧ ((((x1 / 8) - 3) < 0 → K 0) ∧ (¬ ((x1 / 8) - 3) < 0 → (((nm.1 1) ≤ ((x1 / 8) - 3) → K 0) ∧ (¬ (nm.1 1) ≤ ((x1 / 8) - 3) → ((0 : Int) ≤ ((x1 / 8) - 3) ∧ ((x1 / 8) - 3) < (32 : Int)) ∧ K (nm.2.2.2 0 ((x1 / 8) - 3))))))
def wp_Goa_heldCount  (go : Ob) (K : Int → Prop) : Prop :=
  K (go.1 0)
def wp_Ter_changeCount  (te : Ob) (K : Int → Prop) : Prop :=
  K (te.1 1)
def wp_Cho_put (x1 : Int) (x2 : Int) (x4 : Int) (x5 : Int) (te ch : Ob) (K : Ob → Prop) : Prop :=
  ((60 ≤ (ch.1 0) → K ch) ∧ (¬ 60 ≤ (ch.1 0) → ((0 : Int) ≤ (ch.1 0) ∧ (ch.1 0) < (60 : Int)) ∧ ((0 : Int) ≤ (ch.1 0) ∧ (ch.1 0) < (60 : Int)) ∧ wp_Ter_cellCount te (fun r_1 => ((0 : Int) ≤ (ch.1 0) ∧ (ch.1 0) < (60 : Int)) ∧ wp_Ter_changeCount te (fun r_2 => ((0 : Int) ≤ (ch.1 0) ∧ (ch.1 0) < (60 : Int)) ∧ ((0 : Int) ≤ (ch.1 0) ∧ (ch.1 0) < (60 : Int)) ∧ ((0 : Int) ≤ (ch.1 0) ∧ (ch.1 0) < (60 : Int)) ∧ R32 ((ch.1 0) + 1) ∧ K (sI (sA (sA (sA (sA (sA (sA ch 0 (ch.1 0) x1) 1 (ch.1 0) x2) 2 (ch.1 0) r_1) 3 (ch.1 0) r_2) 4 (ch.1 0) x4) 5 (ch.1 0) x5) 0 ((ch.1 0) + 1))))))
def Sea_choose_44  (x2 : Int) (te go ch se : Ob) (K : Int → Ob → Ob → Prop) : Prop :=
  wp_Cho_firstOf x2 (fun r_3 => K r_3 ch se)
def wp_Sea_choose (x1 : Int) (x2 : Int) (te go ch se : Ob) (K : Int → Ob → Ob → Prop) : Prop :=
  wp_Cho_count ch (fun r_1 => wp_Cho_withoutFirst x2 (fun r_2 => ((r_2 = 0 → Sea_choose_44 x2 te go ch (sI se 6 r_1) K) ∧ (¬ r_2 = 0 → wp_Goa_heldCount go (fun r_4 => wp_Cho_put x1 r_4 (se.1 3) r_2 te ch (fun ch_5 => Sea_choose_44 x2 te go ch_5 (sI se 6 r_1) K))))))
def Sea_candidates_141 (L48 : Int → Int → Int → Int → Int → Prop) (x1 : Int) (x2 : Int) (x3 : Int) (x4 : Int) (x5 : Int) (pr te se : Ob) (K : Int → Prop) : Prop :=
  R32 (x5 + 1) ∧ L48 x1 x2 x3 x4 (x5 + 1)
def Sea_candidates_112 (L48 : Int → Int → Int → Int → Int → Prop) (x1 : Int) (x2 : Int) (x3 : Int) (x4 : Int) (x5 : Int) (x6 : Int) (s0 : Int) (pr te se : Ob) (K : Int → Prop) : Prop :=
  wp_Cod_symbolAt_p x6 pr (fun r_7 => ((¬ r_7 = x1 → Sea_candidates_141 L48 x1 x2 x3 x4 x5 pr te se K) ∧ (r_7 = x1 → ((s0 = 0 → Sea_candidates_141 L48 x1 x2 x3 x4 x5 pr te se K) ∧ (¬ s0 = 0 → (0 ≤ x5 ∧ x5 < 32) ∧ R32 ((1 : Int) * 2 ^ (x5).toNat) ∧ (0 : Int) ≤ x4 ∧ (0 : Int) ≤ ((1 : Int) * 2 ^ (x5).toNat) ∧ Sea_candidates_141 L48 x1 x2 x3 ((Int.toNat x4 ||| Int.toNat ((1 : Int) * 2 ^ (x5).toNat) : Nat) : Int) x5 pr te se K)))))
def Sea_candidates_107 (L48 : Int → Int → Int → Int → Int → Prop) (x1 : Int) (x2 : Int) (x3 : Int) (x4 : Int) (x5 : Int) (x6 : Int) (pr te se : Ob) (K : Int → Prop) : Prop :=
  Sea_candidates_112 L48 x1 x2 x3 x4 x5 x6 1 pr te se K
def Sea_candidates_90 (L48 : Int → Int → Int → Int → Int → Prop) (x1 : Int) (x2 : Int) (x3 : Int) (x4 : Int) (x5 : Int) (x6 : Int) (s0 : Int) (pr te se : Ob) (K : Int → Prop) : Prop :=
  ((x3 < 0 → Sea_candidates_107 L48 x1 x2 x3 x4 x5 x6 pr te se K) ∧ (¬ x3 < 0 → ((s0 < 0 → Sea_candidates_107 L48 x1 x2 x3 x4 x5 x6 pr te se K) ∧ (¬ s0 < 0 → ((¬ x3 = s0 → Sea_candidates_112 L48 x1 x2 x3 x4 x5 x6 0 pr te se K) ∧ (x3 = s0 → Sea_candidates_107 L48 x1 x2 x3 x4 x5 x6 pr te se K))))))
def Sea_candidates_48  : Nat → Int → Int → Int → Int → Int → Ob → Ob → Ob → (Int → Prop) → Prop
  | 0, _, _, _, _, _, _, _, _, _ => False
  | n48 + 1, x1, x2, x3, x4, x5, pr, te, se, K => wp_Cod_partCount_p pr (fun r_4 => ((r_4 ≤ x5 → K x4) ∧ (¬ r_4 ≤ x5 → wp_Cod_startOf_p x5 pr (fun r_5 => ((x2 = 0 → R32 (r_5 + 1) ∧ wp_Cod_symbolAt_p (r_5 + 1) pr (fun r_6 => Sea_candidates_90 (fun x1 x2 x3 x4 x5 => Sea_candidates_48 n48 x1 x2 x3 x4 x5 pr te se K) x1 x2 x3 x4 x5 r_5 r_6 pr te se K)) ∧ (¬ x2 = 0 → Sea_candidates_90 (fun x1 x2 x3 x4 x5 => Sea_candidates_48 n48 x1 x2 x3 x4 x5 pr te se K) x1 x2 x3 x4 x5 r_5 (-1) pr te se K))))))
def Sea_candidates_41  (x1 : Int) (x2 : Int) (s0 : Int) (pr te se : Ob) (K : Int → Prop) : Prop :=
  ∃ n48, Sea_candidates_48 n48 x1 x2 s0 0 0 pr te se K
def Sea_candidates_12  (x1 : Int) (s0 : Int) (pr te se : Ob) (K : Int → Prop) : Prop :=
  ((s0 = 0 → R32 ((se.1 5) + 1) ∧ wp_Ter_standing ((se.1 5) + 1) te (fun r_2 => wp_Ter_symbolAt r_2 te (fun r_3 => Sea_candidates_41 x1 s0 r_3 pr te se K))) ∧ (¬ s0 = 0 → Sea_candidates_41 x1 s0 (-1) pr te se K))
def wp_Sea_candidates (x1 : Int) (pr te se : Ob) (K : Int → Prop) : Prop :=
  wp_P_argumentsOf x1 (fun r_1 => ((¬ r_1 = 0 → Sea_candidates_12 x1 0 pr te se K) ∧ (r_1 = 0 → Sea_candidates_12 x1 1 pr te se K)))
def Sea_takeGoal_124  (x1 : Int) (s0 : Int) (nm pr te go ch se : Ob) (K : Int → Ob → Ob → Ob → Prop) : Prop :=
  ((¬ s0 = 0 → ((¬ (se.1 3) = 60 → wp_Sea_choose x1 s0 te go ch se (fun r_9 ch_7 se_8 => K r_9 go ch_7 se_8)) ∧ ((se.1 3) = 60 → K (-1) go ch (sI se 1 3)))) ∧ (s0 = 0 → K (-1) go ch (sI se 2 1)))
def Sea_takeGoal_119  (x1 : Int) (x2 : Int) (nm pr te go ch se : Ob) (K : Int → Ob → Ob → Ob → Prop) : Prop :=
  wp_Sea_candidates x2 pr te se (fun r_6 => Sea_takeGoal_124 x1 r_6 nm pr te go ch se K)
def Sea_takeGoal_96  (x1 : Int) (x2 : Int) (x3 : Int) (nm pr te go ch se : Ob) (K : Int → Ob → Ob → Ob → Prop) : Prop :=
  ((x3 = 0 → Sea_takeGoal_119 x1 x2 nm pr te go ch se K) ∧ (¬ x3 = 0 → wp_Nam_wordOf x2 nm (fun r_10 => ((¬ r_10 = 1818845542 → Sea_takeGoal_119 x1 x2 nm pr te go ch se K) ∧ (r_10 = 1818845542 → Sea_takeGoal_124 x1 0 nm pr te go ch se K)))))
def Sea_takeGoal_74  (x1 : Int) (x2 : Int) (s0 : Int) (nm pr te go ch se : Ob) (K : Int → Ob → Ob → Ob → Prop) : Prop :=
  ((s0 = 0 → Sea_takeGoal_96 x1 x2 s0 nm pr te go ch se K) ∧ (¬ s0 = 0 → wp_Nam_wordOf x2 nm (fun r_11 => ((¬ r_11 = 1702195828 → Sea_takeGoal_96 x1 x2 s0 nm pr te go ch se K) ∧ (r_11 = 1702195828 → K (-1) go ch se)))))
def wp_Sea_takeGoal  (nm pr te go ch se : Ob) (K : Int → Ob → Ob → Ob → Prop) : Prop :=
  wp_Goa_first go (fun r_1 => wp_Goa_termOf r_1 go (fun r_2 => wp_Goa_takeFirst go (fun go_3 => wp_Ter_symbolAt r_2 te (fun r_4 => ((¬ r_4 = 16 → wp_P_argumentsOf r_4 (fun r_5 => ((¬ r_5 = 0 → Sea_takeGoal_74 r_1 r_4 0 nm pr te go_3 ch (sI se 5 r_2) K) ∧ (r_5 = 0 → Sea_takeGoal_74 r_1 r_4 1 nm pr te go_3 ch (sI se 5 r_2) K)))) ∧ (r_4 = 16 → wp_Goa_cutOf r_1 go_3 (fun r_12 => wp_Cho_keepFirst r_12 ch (fun ch_13 => K (-1) go_3 ch_13 (sI se 5 r_2)))))))))
def Sea_step_63   (nm pr te go ch se : Ob) (K : Ob → Ob → Ob → Ob → Prop) : Prop :=
  ((¬ (se.1 2) = 0 → K te go ch se) ∧ ((se.1 2) = 0 → wp_Goa_first go (fun r_5 => ((¬ r_5 = (-1) → K te go ch se) ∧ (r_5 = (-1) → K te go ch (sI se 1 1))))))
def Sea_step_29   (nm pr te go ch se : Ob) (K : Ob → Ob → Ob → Ob → Prop) : Prop :=
  (((se.1 1) = 2 → (((se.1 2) = 0 → Sea_step_63 nm pr te go ch se K) ∧ (¬ (se.1 2) = 0 → wp_Cho_count ch (fun r_6 => ((¬ r_6 = 0 → Sea_step_63 nm pr te go ch se K) ∧ (r_6 = 0 → K te go ch (sI se 1 0))))))) ∧ (¬ (se.1 1) = 2 → K te go ch se))
def Sea_step_18  (s0 : Int) (nm pr te go ch se : Ob) (K : Ob → Ob → Ob → Ob → Prop) : Prop :=
  ((s0 = (-1) → Sea_step_29 nm pr te go ch se K) ∧ (¬ s0 = (-1) → wp_Sea_resolve s0 pr te go se (fun te_7 go_8 se_9 => Sea_step_29 nm pr te_7 go_8 ch se_9 K)))
def wp_Sea_step  (nm pr te go ch se : Ob) (K : Ob → Ob → Ob → Ob → Prop) : Prop :=
  (((se.1 2) = 0 → wp_Sea_takeGoal nm pr te go ch se (fun r_4 go_1 ch_2 se_3 => Sea_step_18 r_4 nm pr te go_1 ch_2 se_3 K)) ∧ (¬ (se.1 2) = 0 → wp_Sea_takeChoice te go ch se (fun r_14 te_10 go_11 ch_12 se_13 => Sea_step_18 r_14 nm pr te_10 go_11 ch_12 se_13 K)))
def Sea_goOn_64   (nm pr te go ch se wr : Ob) (K : Int → Ob → Ob → Ob → Ob → Ob → Prop) : Prop :=
  K (se.1 1) te go ch se wr
def Sea_goOn_41  : Nat → Int → Int → Ob → Ob → Ob → Ob → Ob → Ob → Ob → (Int → Ob → Ob → Ob → Ob → Ob → Prop) → Prop
  | 0, _, _, _, _, _, _, _, _, _, _ => False
  | n41 + 1, x1, x2, nm, pr, te, go, ch, se, wr, K => ((x1 ≤ x2 → Sea_goOn_64 nm pr te go ch se wr K) ∧ (¬ x1 ≤ x2 → ((¬ (se.1 1) = 2 → Sea_goOn_64 nm pr te go ch se wr K) ∧ ((se.1 1) = 2 → wp_Sea_step nm pr te go ch se (fun te_1 go_2 ch_3 se_4 => R32 (x2 + 1) ∧ Sea_goOn_41 n41 x1 (x2 + 1) nm pr te_1 go_2 ch_3 se_4 wr K)))))
def Sea_goOn_39  (x1 : Int) (nm pr te go ch se wr : Ob) (K : Int → Ob → Ob → Ob → Ob → Ob → Prop) : Prop :=
  ∃ n41, Sea_goOn_41 n41 x1 0 nm pr te go ch se wr K
def Sea_goOn_29  (x1 : Int) (s0 : Int) (nm pr te go ch se wr : Ob) (K : Int → Ob → Ob → Ob → Ob → Ob → Prop) : Prop :=
  wp_Wri_clear wr (fun wr_6 => Sea_goOn_39 x1 nm pr te go ch (sI se 1 s0) wr_6 K)
def wp_Sea_goOn (x1 : Int) (nm pr te go ch se wr : Ob) (K : Int → Ob → Ob → Ob → Ob → Ob → Prop) : Prop :=
  ((¬ (se.1 1) = 1 → Sea_goOn_39 x1 nm pr te go ch se wr K) ∧ ((se.1 1) = 1 → wp_Cho_count ch (fun r_5 => ((¬ r_5 = 0 → Sea_goOn_29 x1 2 nm pr te go ch (sI se 2 1) wr K) ∧ (r_5 = 0 → Sea_goOn_29 x1 0 nm pr te go ch (sI se 2 1) wr K)))))
def wp_P_run (x1 : Int) (nm pr te go ch se wr : Ob) (K : Int → Ob → Ob → Ob → Ob → Ob → Prop) : Prop :=
  ((x1 < 1 → K (-1) te go ch se wr) ∧ (¬ x1 < 1 → ((x1 ≤ 100 → wp_Sea_goOn x1 nm pr te go ch se wr (fun r_6 te_1 go_2 ch_3 se_4 wr_5 => K r_6 te_1 go_2 ch_3 se_4 wr_5)) ∧ (¬ x1 ≤ 100 → K (-1) te go ch se wr))))
def wp_Wri_isDone  (wr : Ob) (K : Int → Prop) : Prop :=
  ((wr.1 3) = 0 ∨ (wr.1 3) = 1) ∧ K (wr.1 3)
def wp_Wri_push (x1 : Int) (x2 : Int) (wr : Ob) (K : Ob → Prop) : Prop :=
  ((512 ≤ (wr.1 2) → K wr) ∧ (¬ 512 ≤ (wr.1 2) → R32 (x2 * 4) ∧ R32 ((x2 * 4) + x1) ∧ ((0 : Int) ≤ (wr.1 2) ∧ (wr.1 2) < (512 : Int)) ∧ R32 ((wr.1 2) + 1) ∧ K (sI (sA wr 3 (wr.1 2) ((x2 * 4) + x1)) 2 ((wr.1 2) + 1))))
def wp_Wri_put (x1 : Int) (wr : Ob) (K : Ob → Prop) : Prop :=
  ((1200 ≤ (wr.1 0) → K wr) ∧ (¬ 1200 ≤ (wr.1 0) → ((0 : Int) ≤ (wr.1 0) ∧ (wr.1 0) < (1200 : Int)) ∧ ((0 : Int) ≤ x1 ∧ x1 < (65536 : Int)) ∧ R32 ((wr.1 0) + 1) ∧ K (sI (sA wr 0 (wr.1 0) x1) 0 ((wr.1 0) + 1))))
def Wri_writeVariable_87  (x2 : Int) (wr : Ob) (K : Ob → Prop) : Prop :=
  0 ≤ x2 ∧ R32 (48 + (x2 % 10)) ∧ (0 ≤ (48 + (x2 % 10)) ∧ (48 + (x2 % 10)) < 65536) ∧ wp_Wri_put (48 + (x2 % 10)) wr (fun wr_2 => K wr_2)
def Wri_writeVariable_63  (x2 : Int) (wr : Ob) (K : Ob → Prop) : Prop :=
  wp_Wri_put 95 wr (fun wr_1 => ((x2 < 10 → Wri_writeVariable_87 x2 wr_1 K) ∧ (¬ x2 < 10 → 0 ≤ x2 ∧ R32 (48 + (x2 / 10)) ∧ (0 ≤ (48 + (x2 / 10)) ∧ (48 + (x2 / 10)) < 65536) ∧ wp_Wri_put (48 + (x2 / 10)) wr_1 (fun wr_3 => Wri_writeVariable_87 x2 wr_3 K))))
def Wri_writeVariable_26  (x1 : Int) (x2 : Int) (wr : Ob) (K : Ob → Prop) : Prop :=
  ((¬ x2 = (wr.1 1) → Wri_writeVariable_63 x2 wr K) ∧ (x2 = (wr.1 1) → ((120 ≤ (wr.1 1) → Wri_writeVariable_63 x2 wr K) ∧ (¬ 120 ≤ (wr.1 1) → ((0 : Int) ≤ (wr.1 1) ∧ (wr.1 1) < (120 : Int)) ∧ R32 ((wr.1 1) + 1) ∧ Wri_writeVariable_63 x2 (sI (sA wr 2 (wr.1 1) x1) 1 ((wr.1 1) + 1)) K))))
def Wri_writeVariable_2  : Nat → Int → Int → Ob → (Ob → Prop) → Prop
  | 0, _, _, _, _ => False
  | n2 + 1, x1, x2, wr, K => (((wr.1 1) ≤ x2 → Wri_writeVariable_26 x1 x2 wr K) ∧ (¬ (wr.1 1) ≤ x2 → ((0 : Int) ≤ x2 ∧ x2 < (120 : Int)) ∧ (((wr.2.1 2 x2) = x1 → Wri_writeVariable_26 x1 x2 wr K) ∧ (¬ (wr.2.1 2 x2) = x1 → R32 (x2 + 1) ∧ Wri_writeVariable_2 n2 x1 (x2 + 1) wr K))))
def wp_Wri_writeVariable (x1 : Int) (wr : Ob) (K : Ob → Prop) : Prop :=
  ∃ n2, Wri_writeVariable_2 n2 x1 0 wr K
def Ter_argument_7  : Nat → Int → Int → Int → Ob → (Int → Prop) → Prop
  | 0, _, _, _, _, _ => False
  | n7 + 1, x2, x3, x4, te, K => ((x2 ≤ x4 → K x3) ∧ (¬ x2 ≤ x4 → wp_Ter_sizeAt x3 te (fun r_1 => R32 (x3 + r_1) ∧ R32 (x4 + 1) ∧ Ter_argument_7 n7 x2 (x3 + r_1) (x4 + 1) te K)))
def wp_Ter_argument (x1 : Int) (x2 : Int) (te : Ob) (K : Int → Prop) : Prop :=
  R32 (x1 + 1) ∧ ∃ n7, Ter_argument_7 n7 x2 (x1 + 1) 0 te K
def wp_Wri_pushList (x1 : Int) (te wr : Ob) (K : Ob → Prop) : Prop :=
  wp_Ter_argument x1 1 te (fun r_1 => wp_Wri_push 1 r_1 wr (fun wr_2 => wp_Ter_argument x1 0 te (fun r_3 => wp_Wri_push 0 r_3 wr_2 (fun wr_4 => K wr_4))))
def Wri_writeWord_33 (L2 : Nat → Int → Ob → Prop) (y1 : Nat) (x3 : Int) (wr : Ob) (K : Ob → Prop) : Prop :=
  R32 (x3 + 1) ∧ L2 y1 (x3 + 1) wr
def Wri_writeWord_2  : Nat → Nat → Int → Ob → (Ob → Prop) → Prop
  | 0, _, _, _, _ => False
  | n2 + 1, y1, x3, wr, K => ((8 ≤ x3 → K wr) ∧ (¬ 8 ≤ x3 → R32 (8 * x3) ∧ (0 ≤ (8 * x3) ∧ (8 * x3) < 64) ∧ ((y1 / 2 ^ (8 * x3).toNat) &&& 255) < 2147483648 ∧ (0 ≤ (((y1 / 2 ^ (8 * x3).toNat) &&& 255 : Nat) : Int) ∧ (((y1 / 2 ^ (8 * x3).toNat) &&& 255 : Nat) : Int) < 65536) ∧ (((((y1 / 2 ^ (8 * x3).toNat) &&& 255 : Nat) : Int) = 0 → Wri_writeWord_33 (fun y1 x3 wr' => Wri_writeWord_2 n2 y1 x3 wr' K) y1 x3 wr K) ∧ (¬ (((y1 / 2 ^ (8 * x3).toNat) &&& 255 : Nat) : Int) = 0 → wp_Wri_put (((y1 / 2 ^ (8 * x3).toNat) &&& 255 : Nat) : Int) wr (fun wr_1 => Wri_writeWord_33 (fun y1 x3 wr' => Wri_writeWord_2 n2 y1 x3 wr' K) y1 x3 wr_1 K)))))
def wp_Wri_writeWord (y1 : Nat) (wr : Ob) (K : Ob → Prop) : Prop :=
  ∃ n2, Wri_writeWord_2 n2 y1 0 wr K
def Wri_pushArguments_46 (L15 : Int → Int → Ob → Prop) (x1 : Int) (x3 : Int) (s0 : Int) (s1 : Int) (te wr : Ob) (K : Ob → Prop) : Prop :=
  wp_Wri_push s1 s0 wr (fun wr_3 => R32 (x3 + (-1)) ∧ L15 x1 (x3 + (-1)) wr_3)
def Wri_pushArguments_15  : Nat → Int → Int → Ob → Ob → (Ob → Prop) → Prop
  | 0, _, _, _, _, _ => False
  | n15 + 1, x1, x3, te, wr, K => ((x3 < 0 → K wr) ∧ (¬ x3 < 0 → wp_Ter_argument x1 x3 te (fun r_1 => wp_Wri_push 0 r_1 wr (fun wr_2 => ((¬ x3 = 0 → Wri_pushArguments_46 (fun x1 x3 wr' => Wri_pushArguments_15 n15 x1 x3 te wr' K) x1 x3 44 2 te wr_2 K) ∧ (x3 = 0 → Wri_pushArguments_46 (fun x1 x3 wr' => Wri_pushArguments_15 n15 x1 x3 te wr' K) x1 x3 40 2 te wr_2 K))))))
def Wri_pushArguments_11  (x1 : Int) (x2 : Int) (te wr : Ob) (K : Ob → Prop) : Prop :=
  R32 (x2 - 1) ∧ ∃ n15, Wri_pushArguments_15 n15 x1 (x2 - 1) te wr K
def wp_Wri_pushArguments (x1 : Int) (x2 : Int) (te wr : Ob) (K : Ob → Prop) : Prop :=
  ((x2 ≤ 0 → Wri_pushArguments_11 x1 x2 te wr K) ∧ (¬ x2 ≤ 0 → wp_Wri_push 2 41 wr (fun wr_4 => Wri_pushArguments_11 x1 x2 te wr_4 K)))
def wp_Wri_writeTerm (x1 : Int) (nm te wr : Ob) (K : Ob → Prop) : Prop :=
  wp_Ter_symbolAt x1 te (fun r_1 => ((0 ≤ r_1 → ((¬ r_1 = 0 → ((¬ r_1 = 10 → wp_Nam_wordOf r_1 nm (fun r_2 => wp_Wri_writeWord r_2 wr (fun wr_3 => wp_P_argumentsOf r_1 (fun r_4 => wp_Wri_pushArguments x1 r_4 te wr_3 (fun wr_5 => K wr_5))))) ∧ (r_1 = 10 → wp_Wri_put 91 wr (fun wr_6 => wp_Wri_pushList x1 te wr_6 (fun wr_7 => K wr_7))))) ∧ (r_1 = 0 → wp_Wri_put 91 wr (fun wr_8 => wp_Wri_put 93 wr_8 (fun wr_9 => K wr_9))))) ∧ (¬ 0 ≤ r_1 → wp_Wri_writeVariable x1 wr (fun wr_10 => K wr_10))))
def wp_Wri_writeRest (x1 : Int) (te wr : Ob) (K : Ob → Prop) : Prop :=
  wp_Ter_symbolAt x1 te (fun r_1 => ((¬ r_1 = 0 → ((¬ r_1 = 10 → wp_Wri_put 124 wr (fun wr_2 => wp_Wri_push 2 93 wr_2 (fun wr_3 => wp_Wri_push 0 x1 wr_3 (fun wr_4 => K wr_4)))) ∧ (r_1 = 10 → wp_Wri_put 44 wr (fun wr_5 => wp_Wri_pushList x1 te wr_5 (fun wr_6 => K wr_6))))) ∧ (r_1 = 0 → wp_Wri_put 93 wr (fun wr_7 => K wr_7))))
def Wri_write_103 (L13 : Int → Ob → Prop) (x2 : Int) (nm te wr : Ob) (K : Ob → Prop) : Prop :=
  R32 (x2 + 1) ∧ L13 (x2 + 1) wr
def Wri_write_13  : Nat → Int → Ob → Ob → Ob → (Ob → Prop) → Prop
  | 0, _, _, _, _, _ => False
  | n13 + 1, x2, nm, te, wr, K => ((1000000 ≤ x2 → K wr) ∧ (¬ 1000000 ≤ x2 → (((wr.1 2) ≤ 0 → K wr) ∧ (¬ (wr.1 2) ≤ 0 → R32 ((wr.1 2) - 1) ∧ ((0 : Int) ≤ ((wr.1 2) - 1) ∧ ((wr.1 2) - 1) < (512 : Int)) ∧ 0 ≤ (wr.2.1 3 ((wr.1 2) - 1)) ∧ 0 ≤ (wr.2.1 3 ((wr.1 2) - 1)) ∧ ((¬ ((wr.2.1 3 ((wr.1 2) - 1)) % 4) = 2 → 0 ≤ (wr.2.1 3 ((wr.1 2) - 1)) ∧ ((¬ ((wr.2.1 3 ((wr.1 2) - 1)) % 4) = 0 → wp_Ter_standing ((wr.2.1 3 ((wr.1 2) - 1)) / 4) te (fun r_2 => wp_Wri_writeRest r_2 te (sI wr 2 ((wr.1 2) - 1)) (fun wr_3 => Wri_write_103 (fun x2 wr' => Wri_write_13 n13 x2 nm te wr' K) x2 nm te wr_3 K))) ∧ (((wr.2.1 3 ((wr.1 2) - 1)) % 4) = 0 → wp_Ter_standing ((wr.2.1 3 ((wr.1 2) - 1)) / 4) te (fun r_4 => wp_Wri_writeTerm r_4 nm te (sI wr 2 ((wr.1 2) - 1)) (fun wr_5 => Wri_write_103 (fun x2 wr' => Wri_write_13 n13 x2 nm te wr' K) x2 nm te wr_5 K))))) ∧ (((wr.2.1 3 ((wr.1 2) - 1)) % 4) = 2 → (0 ≤ ((wr.2.1 3 ((wr.1 2) - 1)) / 4) ∧ ((wr.2.1 3 ((wr.1 2) - 1)) / 4) < 65536) ∧ wp_Wri_put ((wr.2.1 3 ((wr.1 2) - 1)) / 4) (sI wr 2 ((wr.1 2) - 1)) (fun wr_6 => Wri_write_103 (fun x2 wr' => Wri_write_13 n13 x2 nm te wr' K) x2 nm te wr_6 K)))))))
def wp_Wri_write (x1 : Int) (nm te wr : Ob) (K : Ob → Prop) : Prop :=
  wp_Wri_push 0 x1 (sI wr 2 0) (fun wr_1 => ∃ n13, Wri_write_13 n13 0 nm te wr_1 K)
def Wri_writeAll_40   (nm te se wr : Ob) (K : Ob → Prop) : Prop :=
  K (sI wr 3 1)
def Wri_writeAll_6  : Nat → Int → Int → Ob → Ob → Ob → Ob → (Ob → Prop) → Prop
  | 0, _, _, _, _, _, _, _ => False
  | n6 + 1, x2, x3, nm, te, se, wr, K => ((x2 ≤ x3 → Wri_writeAll_40 nm te se wr K) ∧ (¬ x2 ≤ x3 → ((8 ≤ x3 → Wri_writeAll_40 nm te se wr K) ∧ (¬ 8 ≤ x3 → ((0 : Int) ≤ x3 ∧ x3 < (8 : Int)) ∧ wp_Wri_write (se.2.1 0 x3) nm te wr (fun wr_2 => ((0 : Int) ≤ x3 ∧ x3 < (8 : Int)) ∧ R32 (x3 + 1) ∧ Wri_writeAll_6 n6 x2 (x3 + 1) nm te se (sA wr_2 1 x3 (wr_2.1 0)) K)))))
def wp_Wri_writeAll (x2 : Int) (nm te se wr : Ob) (K : Ob → Prop) : Prop :=
  wp_Wri_clear wr (fun wr_1 => ∃ n6, Wri_writeAll_6 n6 x2 0 nm te se wr_1 K)
def Wri_letter_28  (x1 : Int) (x2 : Int) (s0 : Int) (wr : Ob) (K : Int → Prop) : Prop :=
  ((x2 < 0 → K 0) ∧ (¬ x2 < 0 → ((0 : Int) ≤ x1 ∧ x1 < (8 : Int)) ∧ R32 ((wr.2.1 1 x1) - s0) ∧ ((((wr.2.1 1 x1) - s0) ≤ x2 → K 0) ∧ (¬ ((wr.2.1 1 x1) - s0) ≤ x2 → R32 (s0 + x2) ∧ ((0 : Int) ≤ (s0 + x2) ∧ (s0 + x2) < (1200 : Int)) ∧ (0 ≤ (wr.2.1 0 (s0 + x2)) ∧ (wr.2.1 0 (s0 + x2)) < 65536) ∧ K (wr.2.1 0 (s0 + x2))))))
def wp_Wri_letter (x1 : Int) (x2 : Int) (wr : Ob) (K : Int → Prop) : Prop :=
  ((x1 < 0 → K 0) ∧ (¬ x1 < 0 → ((x1 < 8 → ((¬ x1 = 0 → R32 (x1 - 1) ∧ ((0 : Int) ≤ (x1 - 1) ∧ (x1 - 1) < (8 : Int)) ∧ Wri_letter_28 x1 x2 (wr.2.1 1 (x1 - 1)) wr K) ∧ (x1 = 0 → Wri_letter_28 x1 x2 0 wr K))) ∧ (¬ x1 < 8 → K 0))))
def Sea_letter_47  (x1 : Int) (x2 : Int) (nm te se wr : Ob) (K : Int → Ob → Prop) : Prop :=
  wp_Wri_letter x1 x2 wr (fun r_2 => (0 ≤ r_2 ∧ r_2 < 65536) ∧ K r_2 wr)
def wp_Sea_letter (x1 : Int) (x2 : Int) (nm te se wr : Ob) (K : Int → Ob → Prop) : Prop :=
  ((¬ (se.1 1) = 1 → K 0 wr) ∧ ((se.1 1) = 1 → ((x1 < 0 → K 0 wr) ∧ (¬ x1 < 0 → ((x1 < (se.1 0) → wp_Wri_isDone wr (fun r_1 => ((¬ r_1 = 0 → Sea_letter_47 x1 x2 nm te se wr K) ∧ (r_1 = 0 → wp_Wri_writeAll (se.1 0) nm te se wr (fun wr_3 => Sea_letter_47 x1 x2 nm te se wr_3 K))))) ∧ (¬ x1 < (se.1 0) → K 0 wr))))))
def wp_P_answer (x1 : Int) (x2 : Int) (nm te se wr : Ob) (K : Int → Ob → Prop) : Prop :=
  wp_Sea_letter x1 x2 nm te se wr (fun r_2 wr_1 => (0 ≤ r_2 ∧ r_2 < 65536) ∧ K r_2 wr_1)
def wp_P_clauses  (pr : Ob) (K : Int → Prop) : Prop :=
  wp_Cod_partCount_p pr (fun r_1 => K r_1)
def wp_Sea_tryCount  (se : Ob) (K : Int → Prop) : Prop :=
  K (se.1 4)
def wp_P_tries  (se : Ob) (K : Int → Prop) : Prop :=
  wp_Sea_tryCount se (fun r_1 => K r_1)
def wp_Sea_choiceCount  (ch : Ob) (K : Int → Prop) : Prop :=
  wp_Cho_count ch (fun r_1 => K r_1)
def wp_P_choices  (ch : Ob) (K : Int → Prop) : Prop :=
  wp_Sea_choiceCount ch (fun r_1 => K r_1)
def wp_Sea_branchLength  (se : Ob) (K : Int → Prop) : Prop :=
  K (se.1 3)
def wp_P_length  (se : Ob) (K : Int → Prop) : Prop :=
  wp_Sea_branchLength se (fun r_1 => K r_1)
def Goa_count_7  : Nat → Int → Int → Ob → (Int → Prop) → Prop
  | 0, _, _, _, _ => False
  | n7 + 1, x1, x2, go, K => ((x2 = (-1) → K x1) ∧ (¬ x2 = (-1) → ((488 ≤ x1 → K x1) ∧ (¬ 488 ≤ x1 → R32 (x1 + 1) ∧ wp_Goa_after x2 go (fun r_1 => Goa_count_7 n7 (x1 + 1) r_1 go K)))))
def wp_Goa_count  (go : Ob) (K : Int → Prop) : Prop :=
  ∃ n7, Goa_count_7 n7 0 (go.1 1) go K
def wp_Sea_goalCount  (go se : Ob) (K : Int → Prop) : Prop :=
  (((se.1 2) = 0 → wp_Goa_count go (fun r_1 => K r_1)) ∧ (¬ (se.1 2) = 0 → K 0))
def wp_P_goals  (go se : Ob) (K : Int → Prop) : Prop :=
  wp_Sea_goalCount go se (fun r_1 => K r_1)
def wp_Cod_clear_p  (pr : Ob) (K : Ob → Prop) : Prop :=
  K (sI (sI pr 0 0) 1 0)
def wp_Nam_clear  (nm : Ob) (K : Ob → Prop) : Prop :=
  wp_Nam_drop (sI nm 0 0) (fun nm_1 => K nm_1)
def wp_P_forget  (nm pr te go ch se wr : Ob) (K : Ob → Ob → Ob → Ob → Ob → Ob → Ob → Prop) : Prop :=
  wp_Sea_end te go ch se wr (fun te_1 go_2 ch_3 se_4 wr_5 => wp_Cod_clear_p pr (fun pr_6 => wp_Nam_clear nm (fun nm_7 => K nm_7 pr_6 te_1 go_2 ch_3 se_4 wr_5)))
