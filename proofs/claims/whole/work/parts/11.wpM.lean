/-! printed by wip/gen/drive.py -/
def M_isSmall_12  (x0 : Int)  (K : Int → Prop) : Prop :=
  ((x0 < 48 → K 0) ∧ (¬ x0 < 48 → ((57 < x0 → K 0) ∧ (¬ 57 < x0 → K 1))))
def wp_M_isSmall (x0 : Int)  (K : Int → Prop) : Prop :=
  ((x0 < 97 → M_isSmall_12 x0 K) ∧ (¬ x0 < 97 → ((x0 ≤ 122 → K 1) ∧ (¬ x0 ≤ 122 → M_isSmall_12 x0 K))))
def M_isWord_19  (x0 : Int)  (K : Int → Prop) : Prop :=
  ((¬ x0 = 95 → K 0) ∧ (x0 = 95 → K 1))
def wp_M_isWord (x0 : Int)  (K : Int → Prop) : Prop :=
  wp_M_isSmall x0 (fun r_1 => ((¬ r_1 = 0 → K 1) ∧ (r_1 = 0 → ((x0 < 65 → M_isWord_19 x0 K) ∧ (¬ x0 < 65 → ((x0 ≤ 90 → K 1) ∧ (¬ x0 ≤ 90 → M_isWord_19 x0 K)))))))
def wp_M_isSign (x0 : Int)  (K : Int → Prop) : Prop :=
  ((x0 = 40 → K 1) ∧ (¬ x0 = 40 → ((x0 = 41 → K 1) ∧ (¬ x0 = 41 → ((x0 = 44 → K 1) ∧ (¬ x0 = 44 → ((x0 = 46 → K 1) ∧ (¬ x0 = 46 → ((x0 = 58 → K 1) ∧ (¬ x0 = 58 → ((x0 = 45 → K 1) ∧ (¬ x0 = 45 → ((x0 = 33 → K 1) ∧ (¬ x0 = 33 → ((x0 = 91 → K 1) ∧ (¬ x0 = 91 → ((x0 = 93 → K 1) ∧ (¬ x0 = 93 → ((¬ x0 = 124 → K 0) ∧ (x0 = 124 → K 1))))))))))))))))))))
def M_type_85  : Nat → Nat → Int → Int → Ob → (Int → Ob → Prop) → Prop
  | 0, _, _, _, _, _ => False
  | n85 + 1, y1, x3, x4, m, K => ((x3 ≤ x4 → K 1 m) ∧ (¬ x3 ≤ x4 → R32 (8 * x4) ∧ (0 ≤ (8 * x4) ∧ (8 * x4) < 64) ∧ ((sar y1 (8 * x4).toNat) &&& 255) < 2147483648 ∧ ((0 : Int) ≤ (m.1 0) ∧ (m.1 0) < (240 : Int)) ∧ R32 ((m.1 0) + 1) ∧ R32 (x4 + 1) ∧ M_type_85 n85 y1 x3 (x4 + 1) (sI (sA m 0 (m.1 0) (((sar y1 (8 * x4).toNat) &&& 255 : Nat) : Int)) 0 ((m.1 0) + 1)) K))
def M_type_68  (y1 : Nat) (x3 : Int) (m : Ob) (K : Int → Ob → Prop) : Prop :=
  R32 ((m.1 0) + x3) ∧ ((((m.1 0) + x3) ≤ 240 → ∃ n85, M_type_85 n85 y1 x3 0 m K) ∧ (¬ ((m.1 0) + x3) ≤ 240 → K 0 m))
def M_type_61 (L2 : Nat → Int → Ob → Prop) (y1 : Nat) (x3 : Int) (m : Ob) (K : Int → Ob → Prop) : Prop :=
  R32 (x3 + 1) ∧ L2 y1 (x3 + 1) m
def M_type_2  : Nat → Nat → Int → Ob → (Int → Ob → Prop) → Prop
  | 0, _, _, _, _ => False
  | n2 + 1, y1, x3, m, K => ((8 ≤ x3 → M_type_68 y1 x3 m K) ∧ (¬ 8 ≤ x3 → R32 (8 * x3) ∧ (0 ≤ (8 * x3) ∧ (8 * x3) < 64) ∧ ((((sar y1 (8 * x3).toNat) &&& 255) = 0 → M_type_68 y1 x3 m K) ∧ (¬ ((sar y1 (8 * x3).toNat) &&& 255) = 0 → R32 (8 * x3) ∧ (0 ≤ (8 * x3) ∧ (8 * x3) < 64) ∧ ((sar y1 (8 * x3).toNat) &&& 255) < 2147483648 ∧ wp_M_isWord (((sar y1 (8 * x3).toNat) &&& 255 : Nat) : Int) (fun r_1 => ((¬ r_1 = 0 → M_type_61 (fun y1 x3 m' => M_type_2 n2 y1 x3 m' K) y1 x3 m K) ∧ (r_1 = 0 → wp_M_isSign (((sar y1 (8 * x3).toNat) &&& 255 : Nat) : Int) (fun r_2 => ((¬ r_2 = 0 → M_type_61 (fun y1 x3 m' => M_type_2 n2 y1 x3 m' K) y1 x3 m K) ∧ (r_2 = 0 → (((((sar y1 (8 * x3).toNat) &&& 255 : Nat) : Int) = 32 → M_type_61 (fun y1 x3 m' => M_type_2 n2 y1 x3 m' K) y1 x3 m K) ∧ (¬ (((sar y1 (8 * x3).toNat) &&& 255 : Nat) : Int) = 32 → K 0 m))))))))))))
def wp_M_type (y1 : Nat) (m : Ob) (K : Int → Ob → Prop) : Prop :=
  ∃ n2, M_type_2 n2 y1 0 m K
def wp_M_beginPiece  (m : Ob) (K : Ob → Prop) : Prop :=
  ((0 : Int) ≤ (m.1 5) ∧ (m.1 5) < (242 : Int)) ∧ ((0 : Int) ≤ (m.1 5) ∧ (m.1 5) < (242 : Int)) ∧ K (sI (sA (sA m 2 (m.1 5) (m.1 4)) 3 (m.1 5) 0) 7 0)
def wp_M_at (x1 : Int) (m : Ob) (K : Int → Prop) : Prop :=
  (((m.1 0) ≤ x1 → K 0) ∧ (¬ (m.1 0) ≤ x1 → ((0 : Int) ≤ x1 ∧ x1 < (240 : Int)) ∧ K (m.2.1 0 x1)))
def M_take_248  (s0 : Int) (m : Ob) (K : Ob → Prop) : Prop :=
  R32 ((m.1 2) + 2) ∧ K (sI (sI m 1 s0) 3 ((m.1 2) + 2))
def M_take_247   (m : Ob) (K : Ob → Prop) : Prop :=
  M_take_248 (-1) m K
def M_take_221  (x1 : Int) (m : Ob) (K : Ob → Prop) : Prop :=
  ((¬ x1 = 58 → M_take_247 m K) ∧ (x1 = 58 → R32 ((m.1 2) + 1) ∧ wp_M_at ((m.1 2) + 1) m (fun r_4 => ((¬ r_4 = 45 → M_take_247 m K) ∧ (r_4 = 45 → M_take_248 3 m K)))))
def M_take_203  (s0 : Int) (m : Ob) (K : Ob → Prop) : Prop :=
  K (sI m 1 s0)
def M_take_172  (x1 : Int) (m : Ob) (K : Ob → Prop) : Prop :=
  R32 ((m.1 3) - (m.1 2)) ∧ ((((m.1 3) - (m.1 2)) ≤ 8 → wp_M_isSmall x1 (fun r_7 => ((r_7 = 0 → M_take_203 2 m K) ∧ (¬ r_7 = 0 → M_take_203 1 m K)))) ∧ (¬ ((m.1 3) - (m.1 2)) ≤ 8 → M_take_203 (-1) m K))
def M_take_156 (L93 : Int → Ob → Prop) (x1 : Int) (t0 : Nat) (m : Ob) (K : Ob → Prop) : Prop :=
  R32 ((m.1 3) + 1) ∧ L93 x1 (sI (sJ m 0 t0) 3 ((m.1 3) + 1))
def M_take_93  : Nat → Int → Ob → (Ob → Prop) → Prop
  | 0, _, _, _ => False
  | n93 + 1, x1, m, K => wp_M_at (m.1 3) m (fun r_5 => wp_M_isWord r_5 (fun r_6 => ((r_6 = 0 → M_take_172 x1 m K) ∧ (¬ r_6 = 0 → R32 ((m.1 3) - (m.1 2)) ∧ ((8 ≤ ((m.1 3) - (m.1 2)) → M_take_156 (fun x1 m' => M_take_93 n93 x1 m' K) x1 (m.2.2.1 0) m K) ∧ (¬ 8 ≤ ((m.1 3) - (m.1 2)) → wp_M_at (m.1 3) m (fun r_8 => 0 ≤ r_8 ∧ R32 ((m.1 3) - (m.1 2)) ∧ R32 (8 * ((m.1 3) - (m.1 2))) ∧ (0 ≤ (8 * ((m.1 3) - (m.1 2))) ∧ (8 * ((m.1 3) - (m.1 2))) < 64) ∧ ((r_8).toNat) * 2 ^ (8 * ((m.1 3) - (m.1 2))).toNat < 18446744073709551616 ∧ M_take_156 (fun x1 m' => M_take_93 n93 x1 m' K) x1 ((m.2.2.1 0) ||| (((r_8).toNat) * 2 ^ (8 * ((m.1 3) - (m.1 2))).toNat)) m K)))))))
def M_take_34   (m : Ob) (K : Ob → Prop) : Prop :=
  wp_M_at (m.1 2) m (fun r_2 => R32 ((m.1 2) + 1) ∧ ((¬ r_2 = 0 → wp_M_isWord r_2 (fun r_3 => ((r_3 = 0 → ((r_2 = 58 → M_take_221 r_2 (sI m 3 ((m.1 2) + 1)) K) ∧ (¬ r_2 = 58 → ((¬ r_2 = 45 → K (sI (sI m 3 ((m.1 2) + 1)) 1 r_2)) ∧ (r_2 = 45 → M_take_221 r_2 (sI m 3 ((m.1 2) + 1)) K))))) ∧ (¬ r_3 = 0 → ∃ n93, M_take_93 n93 r_2 (sI (sJ (sI m 3 ((m.1 2) + 1)) 0 0) 3 (m.1 2)) K)))) ∧ (r_2 = 0 → K (sI (sI (sI m 3 ((m.1 2) + 1)) 1 0) 3 (m.1 2)))))
def M_take_8  : Nat → Ob → (Ob → Prop) → Prop
  | 0, _, _ => False
  | n8 + 1, m, K => wp_M_at (m.1 2) m (fun r_1 => ((¬ r_1 = 32 → M_take_34 m K) ∧ (r_1 = 32 → R32 ((m.1 2) + 1) ∧ M_take_8 n8 (sI m 2 ((m.1 2) + 1)) K)))
def wp_M_take  (m : Ob) (K : Ob → Prop) : Prop :=
  ∃ n8, M_take_8 n8 (sI m 2 (m.1 3)) K
def wp_M_push (x1 : Int) (m : Ob) (K : Int → Ob → Prop) : Prop :=
  ((¬ (m.1 8) = 15 → ((0 : Int) ≤ (m.1 8) ∧ (m.1 8) < (16 : Int)) ∧ R32 ((m.1 4) - 1) ∧ ((0 : Int) ≤ (m.1 8) ∧ (m.1 8) < (16 : Int)) ∧ ((0 : Int) ≤ (m.1 8) ∧ (m.1 8) < (16 : Int)) ∧ R32 ((m.1 8) + 1) ∧ K 1 (sI (sA (sA (sA m 7 (m.1 8) x1) 8 (m.1 8) ((m.1 4) - 1)) 9 (m.1 8) 1) 8 ((m.1 8) + 1))) ∧ ((m.1 8) = 15 → K 0 m))
def wp_M_emit (y1 : Nat) (x3 : Int) (m : Ob) (K : Ob → Prop) : Prop :=
  ((0 : Int) ≤ (m.1 4) ∧ (m.1 4) < (500 : Int)) ∧ ((0 : Int) ≤ (m.1 4) ∧ (m.1 4) < (500 : Int)) ∧ R32 ((m.1 4) + 1) ∧ K (sI (sA (sL m 0 (m.1 4) y1) 1 (m.1 4) x3) 4 ((m.1 4) + 1))
def wp_M_beginGoal  (m : Ob) (K : Ob → Prop) : Prop :=
  ((0 : Int) ≤ (m.1 6) ∧ (m.1 6) < (242 : Int)) ∧ R32 ((m.1 6) + 1) ∧ ((0 : Int) ≤ (m.1 5) ∧ (m.1 5) < (242 : Int)) ∧ R32 ((m.2.1 3 (m.1 5)) + 1) ∧ ((0 : Int) ≤ (m.1 5) ∧ (m.1 5) < (242 : Int)) ∧ K (sA (sI (sA m 5 (m.1 6) (m.1 4)) 6 ((m.1 6) + 1)) 3 (m.1 5) ((m.2.1 3 (m.1 5)) + 1))
def wp_M_endPiece  (m : Ob) (K : Ob → Prop) : Prop :=
  ((0 : Int) ≤ (m.1 5) ∧ (m.1 5) < (242 : Int)) ∧ R32 ((m.1 5) + 1) ∧ K (sI (sA m 4 (m.1 5) (m.1 7)) 5 ((m.1 5) + 1))
def M_outside_111  (x2 : Int) (m : Ob) (K : Int → Ob → Prop) : Prop :=
  ((¬ (m.1 1) = 46 → K (-1) m) ∧ ((m.1 1) = 46 → wp_M_endPiece m (fun m_1 => ((x2 = 0 → K 0 m_1) ∧ (¬ x2 = 0 → K 4 m_1)))))
def M_outside_101  (x1 : Int) (x2 : Int) (m : Ob) (K : Int → Ob → Prop) : Prop :=
  ((x1 = 1 → M_outside_111 x2 m K) ∧ (¬ x1 = 1 → ((¬ x1 = 3 → K (-1) m) ∧ (x1 = 3 → M_outside_111 x2 m K))))
def M_outside_85  (x1 : Int) (x2 : Int) (m : Ob) (K : Int → Ob → Prop) : Prop :=
  ((¬ x1 = 3 → M_outside_101 x1 x2 m K) ∧ (x1 = 3 → ((¬ (m.1 1) = 44 → M_outside_101 x1 x2 m K) ∧ ((m.1 1) = 44 → K 2 m))))
def M_outside_72  (x1 : Int) (x2 : Int) (m : Ob) (K : Int → Ob → Prop) : Prop :=
  ((¬ x1 = 1 → M_outside_85 x1 x2 m K) ∧ (x1 = 1 → (((m.1 1) = 3 → K 2 m) ∧ (¬ (m.1 1) = 3 → M_outside_85 x1 x2 m K))))
def M_outside_45  (x1 : Int) (x2 : Int) (m : Ob) (K : Int → Ob → Prop) : Prop :=
  ((¬ x1 = 2 → M_outside_72 x1 x2 m K) ∧ (x1 = 2 → ((¬ (m.1 1) = 33 → M_outside_72 x1 x2 m K) ∧ ((m.1 1) = 33 → wp_M_beginGoal m (fun m_2 => wp_M_emit 0 (-2) m_2 (fun m_3 => K 3 m_3))))))
def M_outside_32  (x1 : Int) (m : Ob) (K : Int → Ob → Prop) : Prop :=
  wp_M_emit (m.2.2.1 0) 0 m (fun m_5 => R32 (x1 + 1) ∧ K (x1 + 1) m_5)
def M_outside_9  (x1 : Int) (x2 : Int) (m : Ob) (K : Int → Ob → Prop) : Prop :=
  ((¬ (m.1 1) = 1 → M_outside_45 x1 x2 m K) ∧ ((m.1 1) = 1 → ((¬ x1 = 0 → wp_M_beginGoal m (fun m_4 => M_outside_32 x1 m_4 K)) ∧ (x1 = 0 → wp_M_beginPiece m (fun m_6 => M_outside_32 x1 m_6 K)))))
def wp_M_outside (x1 : Int) (x2 : Int) (m : Ob) (K : Int → Ob → Prop) : Prop :=
  ((x1 = 0 → M_outside_9 x1 x2 m K) ∧ (¬ x1 = 0 → ((¬ x1 = 2 → M_outside_45 x1 x2 m K) ∧ (x1 = 2 → M_outside_9 x1 x2 m K))))
def M_emitVariable_94  (x1 : Int) (m : Ob) (K : Ob → Prop) : Prop :=
  0 ≤ x1 ∧ wp_M_emit ((x1).toNat) (-1) m (fun m_1 => K m_1)
def M_emitVariable_49  (x1 : Int) (m : Ob) (K : Ob → Prop) : Prop :=
  ((0 ≤ x1 → M_emitVariable_94 x1 m K) ∧ (¬ 0 ≤ x1 → ((0 : Int) ≤ (m.1 7) ∧ (m.1 7) < (242 : Int)) ∧ ((0 : Int) ≤ (m.1 7) ∧ (m.1 7) < (242 : Int)) ∧ R32 ((m.1 7) + 1) ∧ M_emitVariable_94 (m.1 7) (sI (sA (sL m 1 (m.1 7) (m.2.2.1 0)) 6 (m.1 7) (m.1 4)) 7 ((m.1 7) + 1)) K))
def M_emitVariable_42 (L4 : Int → Int → Ob → Prop) (x2 : Int) (s0 : Int) (m : Ob) (K : Ob → Prop) : Prop :=
  R32 (x2 + 1) ∧ L4 s0 (x2 + 1) m
def M_emitVariable_41 (L4 : Int → Int → Ob → Prop) (x1 : Int) (x2 : Int) (m : Ob) (K : Ob → Prop) : Prop :=
  M_emitVariable_42 L4 x2 x1 m K
def M_emitVariable_4  : Nat → Int → Int → Ob → (Ob → Prop) → Prop
  | 0, _, _, _, _ => False
  | n4 + 1, x1, x2, m, K => (((m.1 7) ≤ x2 → M_emitVariable_49 x1 m K) ∧ (¬ (m.1 7) ≤ x2 → (((m.2.2.1 0) = 95 → M_emitVariable_41 (fun x1 x2 m' => M_emitVariable_4 n4 x1 x2 m' K) x1 x2 m K) ∧ (¬ (m.2.2.1 0) = 95 → ((0 : Int) ≤ x2 ∧ x2 < (242 : Int)) ∧ ((¬ (m.2.2.2 1 x2) = (m.2.2.1 0) → M_emitVariable_41 (fun x1 x2 m' => M_emitVariable_4 n4 x1 x2 m' K) x1 x2 m K) ∧ ((m.2.2.2 1 x2) = (m.2.2.1 0) → M_emitVariable_42 (fun x1 x2 m' => M_emitVariable_4 n4 x1 x2 m' K) x2 x2 m K))))))
def wp_M_emitVariable  (m : Ob) (K : Ob → Prop) : Prop :=
  ∃ n4, M_emitVariable_4 n4 (-1) 0 m K
def M_beginTerm_55   (m : Ob) (K : Int → Ob → Prop) : Prop :=
  ((¬ (m.1 1) = 1 → ((¬ (m.1 1) = 2 → wp_M_push 1 (sI m 9 0) (fun r_2 m_1 => ((¬ r_2 = 0 → K 1 (sI m_1 9 1)) ∧ (r_2 = 0 → K 0 m_1)))) ∧ ((m.1 1) = 2 → wp_M_emitVariable (sI m 9 0) (fun m_3 => K 1 m_3)))) ∧ ((m.1 1) = 1 → wp_M_emit (m.2.2.1 0) 0 (sI m 9 0) (fun m_4 => K 1 m_4)))
def M_beginTerm_27   (m : Ob) (K : Int → Ob → Prop) : Prop :=
  R32 ((m.1 8) - 1) ∧ ((0 : Int) ≤ ((m.1 8) - 1) ∧ ((m.1 8) - 1) < (16 : Int)) ∧ ((¬ (m.2.1 7 ((m.1 8) - 1)) = 1 → M_beginTerm_55 m K) ∧ ((m.2.1 7 ((m.1 8) - 1)) = 1 → (((m.1 9) = 0 → M_beginTerm_55 m K) ∧ (¬ (m.1 9) = 0 → wp_M_emit 1 2 m (fun m_5 => M_beginTerm_55 m_5 K)))))
def wp_M_beginTerm  (m : Ob) (K : Int → Ob → Prop) : Prop :=
  (((m.1 1) = 1 → M_beginTerm_27 m K) ∧ (¬ (m.1 1) = 1 → (((m.1 1) = 2 → M_beginTerm_27 m K) ∧ (¬ (m.1 1) = 2 → (((m.1 1) = 91 → M_beginTerm_27 m K) ∧ (¬ (m.1 1) = 91 → K 0 m))))))
def M_goOn_146  (x1 : Int) (m : Ob) (K : Int → Ob → Prop) : Prop :=
  ((¬ (m.1 1) = 124 → K 0 m) ∧ ((m.1 1) = 124 → ((0 : Int) ≤ x1 ∧ x1 < (16 : Int)) ∧ ((¬ (m.2.1 7 x1) = 1 → K 0 m) ∧ ((m.2.1 7 x1) = 1 → ((0 : Int) ≤ x1 ∧ x1 < (16 : Int)) ∧ K 1 (sA m 7 x1 2)))))
def M_goOn_139  (x1 : Int) (m : Ob) (K : Int → Ob → Prop) : Prop :=
  K 1 (sI m 8 x1)
def M_goOn_103  (x1 : Int) (m : Ob) (K : Int → Ob → Prop) : Prop :=
  ((¬ (m.1 1) = 93 → M_goOn_146 x1 m K) ∧ ((m.1 1) = 93 → ((0 : Int) ≤ x1 ∧ x1 < (16 : Int)) ∧ (((m.2.1 7 x1) ≤ 0 → M_goOn_146 x1 m K) ∧ (¬ (m.2.1 7 x1) ≤ 0 → ((0 : Int) ≤ x1 ∧ x1 < (16 : Int)) ∧ ((¬ (m.2.1 7 x1) = 1 → M_goOn_139 x1 m K) ∧ ((m.2.1 7 x1) = 1 → wp_M_emit 2 0 m (fun m_1 => M_goOn_139 x1 m_1 K)))))))
def M_goOn_61  (x1 : Int) (m : Ob) (K : Int → Ob → Prop) : Prop :=
  ((¬ (m.1 1) = 41 → M_goOn_103 x1 m K) ∧ ((m.1 1) = 41 → ((0 : Int) ≤ x1 ∧ x1 < (16 : Int)) ∧ ((¬ (m.2.1 7 x1) = 0 → M_goOn_103 x1 m K) ∧ ((m.2.1 7 x1) = 0 → ((0 : Int) ≤ x1 ∧ x1 < (16 : Int)) ∧ ((0 : Int) ≤ x1 ∧ x1 < (16 : Int)) ∧ ((0 : Int) ≤ (m.2.1 8 x1) ∧ (m.2.1 8 x1) < (500 : Int)) ∧ K 1 (sI (sA m 1 (m.2.1 8 x1) (m.2.1 9 x1)) 8 x1)))))
def M_goOn_56  (s0 : Int) (m : Ob) (K : Int → Ob → Prop) : Prop :=
  (s0 = 0 ∨ s0 = 1) ∧ K 1 (sI m 9 s0)
def wp_M_goOn  (m : Ob) (K : Int → Ob → Prop) : Prop :=
  R32 ((m.1 8) - 1) ∧ ((¬ (m.1 1) = 44 → M_goOn_61 ((m.1 8) - 1) m K) ∧ ((m.1 1) = 44 → ((0 : Int) ≤ ((m.1 8) - 1) ∧ ((m.1 8) - 1) < (16 : Int)) ∧ ((2 ≤ (m.2.1 7 ((m.1 8) - 1)) → M_goOn_61 ((m.1 8) - 1) m K) ∧ (¬ 2 ≤ (m.2.1 7 ((m.1 8) - 1)) → ((0 : Int) ≤ ((m.1 8) - 1) ∧ ((m.1 8) - 1) < (16 : Int)) ∧ R32 ((m.2.1 9 ((m.1 8) - 1)) + 1) ∧ ((0 : Int) ≤ ((m.1 8) - 1) ∧ ((m.1 8) - 1) < (16 : Int)) ∧ ((0 : Int) ≤ ((m.1 8) - 1) ∧ ((m.1 8) - 1) < (16 : Int)) ∧ ((¬ (m.2.1 7 ((m.1 8) - 1)) = 1 → M_goOn_56 0 (sA m 9 ((m.1 8) - 1) ((m.2.1 9 ((m.1 8) - 1)) + 1)) K) ∧ ((m.2.1 7 ((m.1 8) - 1)) = 1 → M_goOn_56 1 (sA m 9 ((m.1 8) - 1) ((m.2.1 9 ((m.1 8) - 1)) + 1)) K))))))
def M_read_344   (m : Ob) (K : Int → Ob → Prop) : Prop :=
  K (m.1 0) m
def M_read_338 (L52 : Int → Int → Int → Int → Int → Ob → Prop) (x1 : Int) (x2 : Int) (x3 : Int) (x4 : Int) (x5 : Int) (m : Ob) (K : Int → Ob → Prop) : Prop :=
  R32 (x5 + 1) ∧ L52 x1 x2 x3 x4 (x5 + 1) m
def M_read_336 (L52 : Int → Int → Int → Int → Int → Ob → Prop) (x1 : Int) (x2 : Int) (x3 : Int) (x5 : Int) (s0 : Int) (m : Ob) (K : Int → Ob → Prop) : Prop :=
  M_read_338 L52 x1 x2 x3 s0 x5 m K
def M_read_331 (L52 : Int → Int → Int → Int → Int → Ob → Prop) (x1 : Int) (x2 : Int) (x3 : Int) (x5 : Int) (m : Ob) (K : Int → Ob → Prop) : Prop :=
  M_read_336 L52 x1 x2 x3 x5 1 m K
def M_read_306   (m : Ob) (K : Int → Ob → Prop) : Prop :=
  K (m.1 2) m
def M_read_294 (L52 : Int → Int → Int → Int → Int → Ob → Prop) (x1 : Int) (x2 : Int) (x3 : Int) (x5 : Int) (s0 : Int) (m : Ob) (K : Int → Ob → Prop) : Prop :=
  M_read_338 L52 x1 x2 x3 s0 x5 m K
def M_read_279 (L52 : Int → Int → Int → Int → Int → Ob → Prop) (x1 : Int) (x2 : Int) (x5 : Int) (s0 : Int) (m : Ob) (K : Int → Ob → Prop) : Prop :=
  ((¬ (m.1 1) = 91 → M_read_294 L52 x1 x2 s0 x5 0 m K) ∧ ((m.1 1) = 91 → M_read_294 L52 x1 x2 s0 x5 1 m K))
def M_read_261   (m : Ob) (K : Int → Ob → Prop) : Prop :=
  K (m.1 2) m
def M_read_249 (L52 : Int → Int → Int → Int → Int → Ob → Prop) (x1 : Int) (x2 : Int) (x4 : Int) (x5 : Int) (m : Ob) (K : Int → Ob → Prop) : Prop :=
  ((x4 = 0 → wp_M_goOn m (fun r_4 m_3 => ((¬ r_4 = 0 → (((m_3.1 1) = 44 → M_read_331 L52 x1 x2 0 x5 m_3 K) ∧ (¬ (m_3.1 1) = 44 → ((¬ (m_3.1 1) = 124 → M_read_336 L52 x1 x2 0 x5 0 m_3 K) ∧ ((m_3.1 1) = 124 → M_read_331 L52 x1 x2 0 x5 m_3 K))))) ∧ (r_4 = 0 → M_read_306 m_3 K)))) ∧ (¬ x4 = 0 → wp_M_beginTerm m (fun r_6 m_5 => ((¬ r_6 = 0 → ((¬ (m_5.1 1) = 1 → M_read_279 L52 x1 x2 x5 0 m_5 K) ∧ ((m_5.1 1) = 1 → M_read_279 L52 x1 x2 x5 1 m_5 K))) ∧ (r_6 = 0 → M_read_261 m_5 K)))))
def M_read_162   (m : Ob) (K : Int → Ob → Prop) : Prop :=
  K (m.1 2) m
def M_read_157 (L52 : Int → Int → Int → Int → Int → Ob → Prop) (x1 : Int) (x2 : Int) (x4 : Int) (x5 : Int) (s0 : Int) (m : Ob) (K : Int → Ob → Prop) : Prop :=
  ((0 ≤ x2 → M_read_338 L52 x1 x2 s0 x4 x5 m K) ∧ (¬ 0 ≤ x2 → M_read_162 m K))
def M_read_130 (L52 : Int → Int → Int → Int → Int → Ob → Prop) (x1 : Int) (x2 : Int) (x4 : Int) (x5 : Int) (m : Ob) (K : Int → Ob → Prop) : Prop :=
  ((¬ (m.1 8) = 0 → ((x4 = 0 → M_read_249 L52 x1 x2 x4 x5 m K) ∧ (¬ x4 = 0 → ((¬ (m.1 1) = 93 → M_read_249 L52 x1 x2 x4 x5 m K) ∧ ((m.1 1) = 93 → (((m.1 9) = 0 → M_read_249 L52 x1 x2 x4 x5 m K) ∧ (¬ (m.1 9) = 0 → R32 ((m.1 8) - 1) ∧ ((0 : Int) ≤ ((m.1 8) - 1) ∧ ((m.1 8) - 1) < (16 : Int)) ∧ ((¬ (m.2.1 7 ((m.1 8) - 1)) = 1 → M_read_249 L52 x1 x2 x4 x5 m K) ∧ ((m.2.1 7 ((m.1 8) - 1)) = 1 → R32 ((m.1 8) - 1) ∧ ((0 : Int) ≤ ((m.1 8) - 1) ∧ ((m.1 8) - 1) < (16 : Int)) ∧ ((¬ (m.2.1 9 ((m.1 8) - 1)) = 1 → M_read_249 L52 x1 x2 x4 x5 m K) ∧ ((m.2.1 9 ((m.1 8) - 1)) = 1 → wp_M_emit 2 0 m (fun m_7 => R32 ((m_7.1 8) - 1) ∧ M_read_338 L52 x1 x2 0 0 x5 (sI (sI m_7 8 ((m_7.1 8) - 1)) 9 0) K)))))))))))) ∧ ((m.1 8) = 0 → wp_M_outside x2 x1 m (fun r_9 m_8 => ((¬ (m_8.1 1) = 1 → M_read_157 L52 x1 r_9 x4 x5 0 m_8 K) ∧ ((m_8.1 1) = 1 → M_read_157 L52 x1 r_9 x4 x5 1 m_8 K)))))
def M_read_117   (m : Ob) (K : Int → Ob → Prop) : Prop :=
  K (m.1 2) m
def M_read_91   (m : Ob) (K : Int → Ob → Prop) : Prop :=
  K (m.1 0) m
def M_read_71  (x2 : Int) (m : Ob) (K : Int → Ob → Prop) : Prop :=
  ((¬ (m.1 8) = 0 → M_read_91 m K) ∧ ((m.1 8) = 0 → ((x2 = 0 → K (-1) m) ∧ (¬ x2 = 0 → ((¬ x2 = 4 → M_read_91 m K) ∧ (x2 = 4 → K (-1) m))))))
def M_read_52  : Nat → Int → Int → Int → Int → Int → Ob → (Int → Ob → Prop) → Prop
  | 0, _, _, _, _, _, _, _ => False
  | n52 + 1, x1, x2, x3, x4, x5, m, K => ((300 ≤ x5 → M_read_344 m K) ∧ (¬ 300 ≤ x5 → wp_M_take m (fun m_2 => ((¬ (m_2.1 1) = 0 → ((x3 = 0 → M_read_130 (fun x1 x2 x3 x4 x5 m' => M_read_52 n52 x1 x2 x3 x4 x5 m' K) x1 x2 x4 x5 m_2 K) ∧ (¬ x3 = 0 → ((¬ (m_2.1 1) = 40 → M_read_130 (fun x1 x2 x3 x4 x5 m' => M_read_52 n52 x1 x2 x3 x4 x5 m' K) x1 x2 x4 x5 m_2 K) ∧ ((m_2.1 1) = 40 → wp_M_push 0 m_2 (fun r_11 m_10 => ((¬ r_11 = 0 → M_read_338 (fun x1 x2 x3 x4 x5 m' => M_read_52 n52 x1 x2 x3 x4 x5 m' K) x1 x2 0 1 x5 m_10 K) ∧ (r_11 = 0 → M_read_117 m_10 K)))))))) ∧ ((m_2.1 1) = 0 → M_read_71 x2 m_2 K)))))
def M_read_9  (x1 : Int) (s0 : Int) (m : Ob) (K : Int → Ob → Prop) : Prop :=
  wp_M_beginPiece (sI (sI (sI (sI (sI (sI m 3 0) 4 0) 5 0) 6 0) 8 0) 9 0) (fun m_1 => ∃ n52, M_read_52 n52 x1 s0 0 0 0 m_1 K)
def wp_M_read (x1 : Int) (m : Ob) (K : Int → Ob → Prop) : Prop :=
  ((x1 = 0 → M_read_9 x1 0 m K) ∧ (¬ x1 = 0 → M_read_9 x1 2 m K))
def wp_M_noSearch  (m : Ob) (K : Ob → Prop) : Prop :=
  K (sI (sI (sI (sI (sI m 13 0) 15 0) 16 0) 17 0) 18 0)
def wp_M_endOf (x1 : Int) (m : Ob) (K : Int → Prop) : Prop :=
  R32 (x1 + 1) ∧ (((m.1 5) ≤ (x1 + 1) → K (m.1 4)) ∧ (¬ (m.1 5) ≤ (x1 + 1) → R32 (x1 + 1) ∧ ((0 : Int) ≤ (x1 + 1) ∧ (x1 + 1) < (242 : Int)) ∧ K (m.2.1 2 (x1 + 1))))
def M_tooMuch_80 (L52 : Int → Int → Int → Prop) (x1 : Int) (x3 : Int) (s0 : Int) (m : Ob) (K : Int → Prop) : Prop :=
  R32 (x3 + 1) ∧ L52 x1 s0 (x3 + 1)
def M_tooMuch_75 (L52 : Int → Int → Int → Prop) (x1 : Int) (x3 : Int) (m : Ob) (K : Int → Prop) : Prop :=
  M_tooMuch_80 L52 x1 x3 1 m K
def M_tooMuch_52  : Nat → Int → Int → Int → Ob → (Int → Prop) → Prop
  | 0, _, _, _, _, _ => False
  | n52 + 1, x1, x2, x3, m, K => wp_M_endOf x1 m (fun r_2 => ((r_2 ≤ x3 → (x2 = 0 ∨ x2 = 1) ∧ K x2) ∧ (¬ r_2 ≤ x3 → ((¬ x2 = 0 → M_tooMuch_75 (fun x1 x2 x3 => M_tooMuch_52 n52 x1 x2 x3 m K) x1 x3 m K) ∧ (x2 = 0 → ((0 : Int) ≤ x3 ∧ x3 < (500 : Int)) ∧ (((m.2.1 1 x3) ≤ 4 → M_tooMuch_80 (fun x1 x2 x3 => M_tooMuch_52 n52 x1 x2 x3 m K) x1 x3 0 m K) ∧ (¬ (m.2.1 1 x3) ≤ 4 → M_tooMuch_75 (fun x1 x2 x3 => M_tooMuch_52 n52 x1 x2 x3 m K) x1 x3 m K)))))))
def M_tooMuch_44  (x1 : Int) (s0 : Int) (m : Ob) (K : Int → Prop) : Prop :=
  ((0 : Int) ≤ x1 ∧ x1 < (242 : Int)) ∧ ∃ n52, M_tooMuch_52 n52 x1 s0 (m.2.1 2 x1) m K
def M_tooMuch_39  (x1 : Int) (m : Ob) (K : Int → Prop) : Prop :=
  M_tooMuch_44 x1 1 m K
def wp_M_tooMuch (x1 : Int) (m : Ob) (K : Int → Prop) : Prop :=
  wp_M_endOf x1 m (fun r_1 => ((0 : Int) ≤ x1 ∧ x1 < (242 : Int)) ∧ R32 (r_1 - (m.2.1 2 x1)) ∧ ((40 < (r_1 - (m.2.1 2 x1)) → M_tooMuch_39 x1 m K) ∧ (¬ 40 < (r_1 - (m.2.1 2 x1)) → ((0 : Int) ≤ x1 ∧ x1 < (242 : Int)) ∧ ((8 < (m.2.1 4 x1) → M_tooMuch_39 x1 m K) ∧ (¬ 8 < (m.2.1 4 x1) → ((0 : Int) ≤ x1 ∧ x1 < (242 : Int)) ∧ (((m.2.1 3 x1) ≤ 8 → M_tooMuch_44 x1 0 m K) ∧ (¬ (m.2.1 3 x1) ≤ 8 → M_tooMuch_39 x1 m K)))))))
def M_addNames_116 (L7 : Int → Int → Ob → Prop) (x1 : Int) (x2 : Int) (m : Ob) (K : Int → Ob → Prop) : Prop :=
  R32 (x2 + 1) ∧ L7 x1 (x2 + 1) m
def M_addNames_96 (L7 : Int → Int → Ob → Prop) (x1 : Int) (x2 : Int) (x3 : Int) (m : Ob) (K : Int → Ob → Prop) : Prop :=
  ((¬ x3 = 0 → M_addNames_116 L7 x1 x2 m K) ∧ (x3 = 0 → ((0 : Int) ≤ x2 ∧ x2 < (500 : Int)) ∧ ((0 : Int) ≤ x1 ∧ x1 < (300 : Int)) ∧ R32 (x1 + 1) ∧ M_addNames_116 L7 (x1 + 1) x2 (sL m 3 x1 (m.2.2.2 0 x2)) K))
def M_addNames_89 (L7 : Int → Int → Ob → Prop) (L57 : Int → Int → Int → Int → Ob → Prop) (x1 : Int) (x2 : Int) (x4 : Int) (s0 : Int) (m : Ob) (K : Int → Ob → Prop) : Prop :=
  R32 (x4 + 1) ∧ L57 x1 x2 s0 (x4 + 1) m
def M_addNames_57 (L7 : Int → Int → Ob → Prop) : Nat → Int → Int → Int → Int → Ob → (Int → Ob → Prop) → Prop
  | 0, _, _, _, _, _, _ => False
  | n57 + 1, x1, x2, x3, x4, m, K => ((x1 ≤ x4 → M_addNames_96 L7 x1 x2 x3 m K) ∧ (¬ x1 ≤ x4 → ((¬ x3 = 0 → M_addNames_96 L7 x1 x2 x3 m K) ∧ (x3 = 0 → ((0 : Int) ≤ x4 ∧ x4 < (300 : Int)) ∧ ((0 : Int) ≤ x2 ∧ x2 < (500 : Int)) ∧ ((¬ (m.2.2.2 3 x4) = (m.2.2.2 0 x2) → M_addNames_89 L7 (fun x1 x2 x3 x4 m' => M_addNames_57 L7 n57 x1 x2 x3 x4 m' K) x1 x2 x4 0 m K) ∧ ((m.2.2.2 3 x4) = (m.2.2.2 0 x2) → M_addNames_89 L7 (fun x1 x2 x3 x4 m' => M_addNames_57 L7 n57 x1 x2 x3 x4 m' K) x1 x2 x4 1 m K))))))
def M_addNames_53 (L7 : Int → Int → Ob → Prop) (x1 : Int) (x2 : Int) (s0 : Int) (m : Ob) (K : Int → Ob → Prop) : Prop :=
  ∃ n57, M_addNames_57 L7 n57 x1 x2 s0 0 m K
def M_addNames_48 (L7 : Int → Int → Ob → Prop) (x1 : Int) (x2 : Int) (m : Ob) (K : Int → Ob → Prop) : Prop :=
  M_addNames_53 L7 x1 x2 1 m K
def M_addNames_7  : Nat → Int → Int → Ob → (Int → Ob → Prop) → Prop
  | 0, _, _, _, _ => False
  | n7 + 1, x1, x2, m, K => (((m.1 4) ≤ x2 → K x1 m) ∧ (¬ (m.1 4) ≤ x2 → ((0 : Int) ≤ x2 ∧ x2 < (500 : Int)) ∧ (((m.2.1 1 x2) < 0 → M_addNames_48 (fun x1 x2 m' => M_addNames_7 n7 x1 x2 m' K) x1 x2 m K) ∧ (¬ (m.2.1 1 x2) < 0 → ((0 : Int) ≤ x2 ∧ x2 < (500 : Int)) ∧ (((m.2.2.2 0 x2) = 1 → M_addNames_48 (fun x1 x2 m' => M_addNames_7 n7 x1 x2 m' K) x1 x2 m K) ∧ (¬ (m.2.2.2 0 x2) = 1 → ((0 : Int) ≤ x2 ∧ x2 < (500 : Int)) ∧ ((¬ (m.2.2.2 0 x2) = 2 → M_addNames_53 (fun x1 x2 m' => M_addNames_7 n7 x1 x2 m' K) x1 x2 0 m K) ∧ ((m.2.2.2 0 x2) = 2 → M_addNames_48 (fun x1 x2 m' => M_addNames_7 n7 x1 x2 m' K) x1 x2 m K))))))))
def wp_M_addNames  (m : Ob) (K : Int → Ob → Prop) : Prop :=
  ∃ n7, M_addNames_7 n7 (m.1 11) 0 m K
def M_keep_105  : Nat → Int → Int → Int → Int → Ob → (Ob → Prop) → Prop
  | 0, _, _, _, _, _, _ => False
  | n105 + 1, x1, x2, x3, x4, m, K => ((0 : Int) ≤ x3 ∧ x3 < (25 : Int)) ∧ (((m.2.1 12 x3) ≤ x4 → K m) ∧ (¬ (m.2.1 12 x3) ≤ x4 → R32 (8 * x3) ∧ R32 ((8 * x3) + x4) ∧ R32 (40 * x3) ∧ R32 (x2 + x4) ∧ ((0 : Int) ≤ (x2 + x4) ∧ (x2 + x4) < (242 : Int)) ∧ R32 ((40 * x3) + (m.2.1 5 (x2 + x4))) ∧ ((0 : Int) ≤ x1 ∧ x1 < (242 : Int)) ∧ R32 (((40 * x3) + (m.2.1 5 (x2 + x4))) - (m.2.1 2 x1)) ∧ ((0 : Int) ≤ ((8 * x3) + x4) ∧ ((8 * x3) + x4) < (200 : Int)) ∧ R32 (x4 + 1) ∧ M_keep_105 n105 x1 x2 x3 (x4 + 1) (sA m 13 ((8 * x3) + x4) (((40 * x3) + (m.2.1 5 (x2 + x4))) - (m.2.1 2 x1))) K))
def M_keep_90  (x1 : Int) (x2 : Int) (x3 : Int) (m : Ob) (K : Ob → Prop) : Prop :=
  ((0 : Int) ≤ x1 ∧ x1 < (242 : Int)) ∧ ((0 : Int) ≤ x3 ∧ x3 < (25 : Int)) ∧ ∃ n105, M_keep_105 n105 x1 x2 x3 0 (sA m 12 x3 (m.2.1 3 x1)) K
def M_keep_21  : Nat → Int → Int → Int → Int → Ob → (Ob → Prop) → Prop
  | 0, _, _, _, _, _, _ => False
  | n21 + 1, x1, x2, x3, x4, m, K => ((0 : Int) ≤ x3 ∧ x3 < (25 : Int)) ∧ (((m.2.1 11 x3) ≤ x4 → M_keep_90 x1 x2 x3 m K) ∧ (¬ (m.2.1 11 x3) ≤ x4 → R32 (40 * x3) ∧ R32 ((40 * x3) + x4) ∧ ((0 : Int) ≤ x1 ∧ x1 < (242 : Int)) ∧ R32 ((m.2.1 2 x1) + x4) ∧ ((0 : Int) ≤ ((m.2.1 2 x1) + x4) ∧ ((m.2.1 2 x1) + x4) < (500 : Int)) ∧ ((0 : Int) ≤ ((40 * x3) + x4) ∧ ((40 * x3) + x4) < (1000 : Int)) ∧ R32 (40 * x3) ∧ R32 ((40 * x3) + x4) ∧ ((0 : Int) ≤ x1 ∧ x1 < (242 : Int)) ∧ R32 ((m.2.1 2 x1) + x4) ∧ ((0 : Int) ≤ ((m.2.1 2 x1) + x4) ∧ ((m.2.1 2 x1) + x4) < (500 : Int)) ∧ ((0 : Int) ≤ ((40 * x3) + x4) ∧ ((40 * x3) + x4) < (1000 : Int)) ∧ R32 (x4 + 1) ∧ M_keep_21 n21 x1 x2 x3 (x4 + 1) (sA (sL m 2 ((40 * x3) + x4) (m.2.2.2 0 ((m.2.1 2 x1) + x4))) 10 ((40 * x3) + x4) (m.2.1 1 ((m.2.1 2 x1) + x4))) K))
def wp_M_keep (x1 : Int) (x2 : Int) (x3 : Int) (m : Ob) (K : Ob → Prop) : Prop :=
  wp_M_endOf x1 m (fun r_1 => ((0 : Int) ≤ x1 ∧ x1 < (242 : Int)) ∧ R32 (r_1 - (m.2.1 2 x1)) ∧ ((0 : Int) ≤ x3 ∧ x3 < (25 : Int)) ∧ ∃ n21, M_keep_21 n21 x1 x2 x3 0 (sA m 11 x3 (r_1 - (m.2.1 2 x1))) K)
def M_consult_156   (m : Ob) (K : Int → Ob → Prop) : Prop :=
  K (m.1 5) m
def M_consult_107  : Nat → Int → Int → Ob → (Int → Ob → Prop) → Prop
  | 0, _, _, _, _ => False
  | n107 + 1, x4, x5, m, K => (((m.1 5) ≤ x5 → M_consult_156 m K) ∧ (¬ (m.1 5) ≤ x5 → wp_M_keep x5 x4 (m.1 10) m (fun m_6 => ((0 : Int) ≤ x5 ∧ x5 < (242 : Int)) ∧ R32 (x4 + (m_6.2.1 3 x5)) ∧ R32 ((m_6.1 10) + 1) ∧ R32 (x5 + 1) ∧ M_consult_107 n107 (x4 + (m_6.2.1 3 x5)) (x5 + 1) (sI m_6 10 ((m_6.1 10) + 1)) K)))
def M_consult_77  (x2 : Int) (m : Ob) (K : Int → Ob → Prop) : Prop :=
  wp_M_addNames m (fun r_5 m_4 => ((¬ x2 = 0 → K (-1000) m_4) ∧ (x2 = 0 → ((r_5 ≤ 32 → ∃ n107, M_consult_107 n107 0 0 (sI m_4 11 r_5) K) ∧ (¬ r_5 ≤ 32 → K (-1000) m_4)))))
def M_consult_70 (L45 : Int → Int → Ob → Prop) (x3 : Int) (s0 : Int) (m : Ob) (K : Int → Ob → Prop) : Prop :=
  R32 (x3 + 1) ∧ L45 s0 (x3 + 1) m
def M_consult_65 (L45 : Int → Int → Ob → Prop) (x3 : Int) (m : Ob) (K : Int → Ob → Prop) : Prop :=
  M_consult_70 L45 x3 1 m K
def M_consult_45  : Nat → Int → Int → Ob → (Int → Ob → Prop) → Prop
  | 0, _, _, _, _ => False
  | n45 + 1, x2, x3, m, K => (((m.1 5) ≤ x3 → M_consult_77 x2 m K) ∧ (¬ (m.1 5) ≤ x3 → ((¬ x2 = 0 → M_consult_65 (fun x2 x3 m' => M_consult_45 n45 x2 x3 m' K) x3 m K) ∧ (x2 = 0 → wp_M_tooMuch x3 m (fun r_7 => ((r_7 = 0 → M_consult_70 (fun x2 x3 m' => M_consult_45 n45 x2 x3 m' K) x3 0 m K) ∧ (¬ r_7 = 0 → M_consult_65 (fun x2 x3 m' => M_consult_45 n45 x2 x3 m' K) x3 m K)))))))
def M_consult_42  (s0 : Int) (m : Ob) (K : Int → Ob → Prop) : Prop :=
  ∃ n45, M_consult_45 n45 s0 0 m K
def wp_M_consult  (m : Ob) (K : Int → Ob → Prop) : Prop :=
  wp_M_read 0 m (fun r_2 m_1 => wp_M_noSearch (sI m_1 0 0) (fun m_3 => ((r_2 < 0 → R32 ((m_3.1 10) + (m_3.1 5)) ∧ ((((m_3.1 10) + (m_3.1 5)) ≤ 24 → M_consult_42 0 m_3 K) ∧ (¬ ((m_3.1 10) + (m_3.1 5)) ≤ 24 → M_consult_42 1 m_3 K))) ∧ (¬ r_2 < 0 → R32 ((-1) - r_2) ∧ K ((-1) - r_2) m_3))))
def M_clearFrame_2  : Nat → Int → Int → Ob → (Ob → Prop) → Prop
  | 0, _, _, _, _ => False
  | n2 + 1, x1, x2, m, K => ((8 ≤ x2 → K m) ∧ (¬ 8 ≤ x2 → R32 (8 * x1) ∧ R32 ((8 * x1) + x2) ∧ ((0 : Int) ≤ ((8 * x1) + x2) ∧ ((8 * x1) + x2) < (488 : Int)) ∧ R32 (x2 + 1) ∧ M_clearFrame_2 n2 x1 (x2 + 1) (sA m 22 ((8 * x1) + x2) (-1)) K))
def wp_M_clearFrame (x1 : Int) (m : Ob) (K : Ob → Prop) : Prop :=
  ∃ n2, M_clearFrame_2 n2 x1 0 m K
def M_prepend_10  : Nat → Int → Int → Int → Int → Ob → (Ob → Prop) → Prop
  | 0, _, _, _, _, _, _ => False
  | n10 + 1, x1, x2, x3, x4, m, K => ((x4 < 0 → K m) ∧ (¬ x4 < 0 → R32 (8 * x1) ∧ R32 ((8 * x1) + x4) ∧ ((0 : Int) ≤ ((8 * x1) + x4) ∧ ((8 * x1) + x4) < (200 : Int)) ∧ ((0 : Int) ≤ (m.1 18) ∧ (m.1 18) < (300 : Int)) ∧ ((0 : Int) ≤ (m.1 18) ∧ (m.1 18) < (300 : Int)) ∧ ((0 : Int) ≤ (m.1 18) ∧ (m.1 18) < (300 : Int)) ∧ R32 ((m.1 18) + 1) ∧ R32 (x4 + (-1)) ∧ M_prepend_10 n10 x1 x2 x3 (x4 + (-1)) (sI (sA (sA (sA m 19 (m.1 18) (m.2.1 13 ((8 * x1) + x4))) 20 (m.1 18) x2) 21 (m.1 18) x3) 18 ((m.1 18) + 1)) K))
def wp_M_prepend (x1 : Int) (x2 : Int) (x3 : Int) (m : Ob) (K : Ob → Prop) : Prop :=
  ((0 : Int) ≤ x1 ∧ x1 < (25 : Int)) ∧ R32 ((m.2.1 12 x1) - 1) ∧ ∃ n10, M_prepend_10 n10 x1 x2 x3 ((m.2.1 12 x1) - 1) m K
def wp_M_begin  (m : Ob) (K : Ob → Prop) : Prop :=
  wp_M_clearFrame 0 (sI (sI m 18 0) 16 0) (fun m_1 => wp_M_prepend 24 0 0 m_1 (fun m_2 => K m_2))
def M_ask_122   (m : Ob) (K : Int → Ob → Prop) : Prop :=
  wp_M_begin (sI m 13 1) (fun m_8 => K (m_8.1 12) m_8)
def M_ask_116 (L66 : Int → Ob → Prop) (x3 : Int) (m : Ob) (K : Int → Ob → Prop) : Prop :=
  R32 (x3 + 1) ∧ L66 (x3 + 1) m
def M_ask_66  : Nat → Int → Ob → (Int → Ob → Prop) → Prop
  | 0, _, _, _ => False
  | n66 + 1, x3, m, K => (((m.1 7) ≤ x3 → M_ask_122 m K) ∧ (¬ (m.1 7) ≤ x3 → ((0 : Int) ≤ x3 ∧ x3 < (242 : Int)) ∧ (((m.2.2.2 1 x3) = 95 → M_ask_116 (fun x3 m' => M_ask_66 n66 x3 m' K) x3 m K) ∧ (¬ (m.2.2.2 1 x3) = 95 → ((0 : Int) ≤ x3 ∧ x3 < (242 : Int)) ∧ R32 (960 + (m.2.1 6 x3)) ∧ ((0 : Int) ≤ (m.1 12) ∧ (m.1 12) < (8 : Int)) ∧ R32 ((m.1 12) + 1) ∧ M_ask_116 (fun x3 m' => M_ask_66 n66 x3 m' K) x3 (sI (sA m 14 (m.1 12) (960 + (m.2.1 6 x3))) 12 ((m.1 12) + 1)) K))))
def wp_M_ask  (m : Ob) (K : Int → Ob → Prop) : Prop :=
  wp_M_read 1 m (fun r_2 m_1 => wp_M_noSearch (sI m_1 0 0) (fun m_3 => ((r_2 < 0 → wp_M_addNames m_3 (fun r_5 m_4 => wp_M_tooMuch 0 m_4 (fun r_6 => ((¬ r_6 = 0 → K (-1000) m_4) ∧ (r_6 = 0 → ((r_5 ≤ 32 → wp_M_keep 0 0 24 (sI m_4 11 r_5) (fun m_7 => ∃ n66, M_ask_66 n66 0 (sI m_7 12 0) K)) ∧ (¬ r_5 ≤ 32 → K (-1000) m_4))))))) ∧ (¬ r_2 < 0 → R32 ((-1) - r_2) ∧ K ((-1) - r_2) m_3))))
def wp_M_end (x1 : Int) (m : Ob) (K : Ob → Prop) : Prop :=
  K (sI (sI m 13 4) 14 x1)
def wp_M_isWordAlone (x1 : Int) (y2 : Nat) (m : Ob) (K : Int → Prop) : Prop :=
  ((0 : Int) ≤ x1 ∧ x1 < (1000 : Int)) ∧ ((¬ (m.2.1 10 x1) = 0 → K 0) ∧ ((m.2.1 10 x1) = 0 → ((0 : Int) ≤ x1 ∧ x1 < (1000 : Int)) ∧ ((¬ (m.2.2.2 2 x1) = y2 → K 0) ∧ ((m.2.2.2 2 x1) = y2 → K 1))))
def M_follow_12  : Nat → Int → Ob → (Ob → Prop) → Prop
  | 0, _, _, _ => False
  | n12 + 1, x3, m, K => ((500 ≤ x3 → K m) ∧ (¬ 500 ≤ x3 → ((0 : Int) ≤ (m.1 19) ∧ (m.1 19) < (1000 : Int)) ∧ ((¬ (m.2.1 10 (m.1 19)) = (-1) → K m) ∧ ((m.2.1 10 (m.1 19)) = (-1) → R32 (8 * (m.1 20)) ∧ ((0 : Int) ≤ (m.1 19) ∧ (m.1 19) < (1000 : Int)) ∧ (m.2.2.2 2 (m.1 19)) < 2147483648 ∧ R32 ((8 * (m.1 20)) + (((m.2.2.2 2 (m.1 19)) : Nat) : Int)) ∧ ((0 : Int) ≤ ((8 * (m.1 20)) + (((m.2.2.2 2 (m.1 19)) : Nat) : Int)) ∧ ((8 * (m.1 20)) + (((m.2.2.2 2 (m.1 19)) : Nat) : Int)) < (488 : Int)) ∧ ((0 ≤ (m.2.1 22 ((8 * (m.1 20)) + (((m.2.2.2 2 (m.1 19)) : Nat) : Int))) → ((0 : Int) ≤ ((8 * (m.1 20)) + (((m.2.2.2 2 (m.1 19)) : Nat) : Int)) ∧ ((8 * (m.1 20)) + (((m.2.2.2 2 (m.1 19)) : Nat) : Int)) < (488 : Int)) ∧ ((0 : Int) ≤ ((8 * (m.1 20)) + (((m.2.2.2 2 (m.1 19)) : Nat) : Int)) ∧ ((8 * (m.1 20)) + (((m.2.2.2 2 (m.1 19)) : Nat) : Int)) < (488 : Int)) ∧ R32 (x3 + 1) ∧ M_follow_12 n12 (x3 + 1) (sI (sI m 19 (m.2.1 22 ((8 * (m.1 20)) + (((m.2.2.2 2 (m.1 19)) : Nat) : Int)))) 20 (m.2.1 23 ((8 * (m.1 20)) + (((m.2.2.2 2 (m.1 19)) : Nat) : Int)))) K) ∧ (¬ 0 ≤ (m.2.1 22 ((8 * (m.1 20)) + (((m.2.2.2 2 (m.1 19)) : Nat) : Int))) → K m))))))
def wp_M_follow (x1 : Int) (x2 : Int) (m : Ob) (K : Ob → Prop) : Prop :=
  ∃ n12, M_follow_12 n12 0 (sI (sI m 19 x1) 20 x2) K
def M_candidate_159 (L5 : Int → Int → Int → Ob → Prop) (x1 : Int) (x2 : Int) (x4 : Int) (x6 : Int) (m : Ob) (K : Int → Ob → Prop) : Prop :=
  ((x6 = 0 → R32 (x4 + 1) ∧ L5 x1 x2 (x4 + 1) m) ∧ (¬ x6 = 0 → K x4 m))
def M_candidate_157 (L5 : Int → Int → Int → Ob → Prop) (x1 : Int) (x2 : Int) (x4 : Int) (s0 : Int) (m : Ob) (K : Int → Ob → Prop) : Prop :=
  M_candidate_159 L5 x1 x2 x4 s0 m K
def M_candidate_152 (L5 : Int → Int → Int → Ob → Prop) (x1 : Int) (x2 : Int) (x4 : Int) (m : Ob) (K : Int → Ob → Prop) : Prop :=
  M_candidate_157 L5 x1 x2 x4 1 m K
def M_candidate_156 (L5 : Int → Int → Int → Ob → Prop) (x1 : Int) (x2 : Int) (x4 : Int) (m : Ob) (K : Int → Ob → Prop) : Prop :=
  M_candidate_157 L5 x1 x2 x4 0 m K
def M_candidate_59 (L5 : Int → Int → Int → Ob → Prop) (x1 : Int) (x2 : Int) (x4 : Int) (x5 : Int) (s0 : Int) (m : Ob) (K : Int → Ob → Prop) : Prop :=
  ((s0 = 0 → M_candidate_159 L5 x1 x2 x4 s0 m K) ∧ (¬ s0 = 0 → ((0 : Int) ≤ x1 ∧ x1 < (1000 : Int)) ∧ (((m.2.1 10 x1) ≤ 0 → M_candidate_159 L5 x1 x2 x4 s0 m K) ∧ (¬ (m.2.1 10 x1) ≤ 0 → R32 (x1 + 1) ∧ wp_M_follow (x1 + 1) x2 m (fun m_1 => R32 (x5 + 1) ∧ ((0 : Int) ≤ (x5 + 1) ∧ (x5 + 1) < (1000 : Int)) ∧ (((m_1.2.1 10 (x5 + 1)) = (-1) → M_candidate_152 L5 x1 x2 x4 m_1 K) ∧ (¬ (m_1.2.1 10 (x5 + 1)) = (-1) → ((0 : Int) ≤ (m_1.1 19) ∧ (m_1.1 19) < (1000 : Int)) ∧ (((m_1.2.1 10 (m_1.1 19)) = (-1) → M_candidate_152 L5 x1 x2 x4 m_1 K) ∧ (¬ (m_1.2.1 10 (m_1.1 19)) = (-1) → ((0 : Int) ≤ (x5 + 1) ∧ (x5 + 1) < (1000 : Int)) ∧ ((0 : Int) ≤ (m_1.1 19) ∧ (m_1.1 19) < (1000 : Int)) ∧ ((¬ (m_1.2.2.2 2 (x5 + 1)) = (m_1.2.2.2 2 (m_1.1 19)) → M_candidate_156 L5 x1 x2 x4 m_1 K) ∧ ((m_1.2.2.2 2 (x5 + 1)) = (m_1.2.2.2 2 (m_1.1 19)) → ((0 : Int) ≤ (x5 + 1) ∧ (x5 + 1) < (1000 : Int)) ∧ ((0 : Int) ≤ (m_1.1 19) ∧ (m_1.1 19) < (1000 : Int)) ∧ ((¬ (m_1.2.1 10 (x5 + 1)) = (m_1.2.1 10 (m_1.1 19)) → M_candidate_156 L5 x1 x2 x4 m_1 K) ∧ ((m_1.2.1 10 (x5 + 1)) = (m_1.2.1 10 (m_1.1 19)) → M_candidate_152 L5 x1 x2 x4 m_1 K)))))))))))))
def M_candidate_58 (L5 : Int → Int → Int → Ob → Prop) (x1 : Int) (x2 : Int) (x4 : Int) (x5 : Int) (m : Ob) (K : Int → Ob → Prop) : Prop :=
  M_candidate_59 L5 x1 x2 x4 x5 0 m K
def M_candidate_5  : Nat → Int → Int → Int → Ob → (Int → Ob → Prop) → Prop
  | 0, _, _, _, _, _ => False
  | n5 + 1, x1, x2, x4, m, K => (((m.1 10) ≤ x4 → K (-1) m) ∧ (¬ (m.1 10) ≤ x4 → R32 (40 * x4) ∧ ((0 : Int) ≤ (40 * x4) ∧ (40 * x4) < (1000 : Int)) ∧ ((0 : Int) ≤ x1 ∧ x1 < (1000 : Int)) ∧ ((¬ (m.2.2.2 2 (40 * x4)) = (m.2.2.2 2 x1) → M_candidate_58 (fun x1 x2 x4 m' => M_candidate_5 n5 x1 x2 x4 m' K) x1 x2 x4 (40 * x4) m K) ∧ ((m.2.2.2 2 (40 * x4)) = (m.2.2.2 2 x1) → ((0 : Int) ≤ (40 * x4) ∧ (40 * x4) < (1000 : Int)) ∧ ((0 : Int) ≤ x1 ∧ x1 < (1000 : Int)) ∧ ((¬ (m.2.1 10 (40 * x4)) = (m.2.1 10 x1) → M_candidate_58 (fun x1 x2 x4 m' => M_candidate_5 n5 x1 x2 x4 m' K) x1 x2 x4 (40 * x4) m K) ∧ ((m.2.1 10 (40 * x4)) = (m.2.1 10 x1) → M_candidate_59 (fun x1 x2 x4 m' => M_candidate_5 n5 x1 x2 x4 m' K) x1 x2 x4 (40 * x4) 1 m K))))))
def wp_M_candidate (x1 : Int) (x2 : Int) (x3 : Int) (m : Ob) (K : Int → Ob → Prop) : Prop :=
  R32 (x3 + 1) ∧ ∃ n5, M_candidate_5 n5 x1 x2 (x3 + 1) m K
def M_behind_29 (L4 : Int → Int → Prop) (x2 : Int) (s0 : Int) (m : Ob) (K : Int → Prop) : Prop :=
  R32 (x2 + 1) ∧ R32 (s0 + (-1)) ∧ L4 (x2 + 1) (s0 + (-1))
def M_behind_4  : Nat → Int → Int → Ob → (Int → Prop) → Prop
  | 0, _, _, _, _ => False
  | n4 + 1, x2, x3, m, K => ((x3 ≤ 0 → K x2) ∧ (¬ x3 ≤ 0 → ((0 : Int) ≤ x2 ∧ x2 < (1000 : Int)) ∧ (((m.2.1 10 x2) ≤ 0 → M_behind_29 (fun x2 x3 => M_behind_4 n4 x2 x3 m K) x2 x3 m K) ∧ (¬ (m.2.1 10 x2) ≤ 0 → ((0 : Int) ≤ x2 ∧ x2 < (1000 : Int)) ∧ R32 (x3 + (m.2.1 10 x2)) ∧ M_behind_29 (fun x2 x3 => M_behind_4 n4 x2 x3 m K) x2 (x3 + (m.2.1 10 x2)) m K))))
def wp_M_behind (x1 : Int) (m : Ob) (K : Int → Prop) : Prop :=
  ∃ n4, M_behind_4 n4 x1 1 m K
def M_pushAll_78  (x3 : Int) (x4 : Int) (m : Ob) (K : Int → Ob → Prop) : Prop :=
  R32 (2 * x4) ∧ R32 (x3 + (2 * x4)) ∧ K (x3 + (2 * x4)) m
def M_pushAll_32  : Nat → Int → Int → Int → Int → Int → Ob → (Int → Ob → Prop) → Prop
  | 0, _, _, _, _, _, _, _ => False
  | n32 + 1, x2, x3, x4, x5, x6, m, K => ((x6 < 0 → M_pushAll_78 x3 x4 m K) ∧ (¬ x6 < 0 → R32 (2 * x6) ∧ R32 (x3 + (2 * x6)) ∧ ((0 : Int) ≤ (x3 + (2 * x6)) ∧ (x3 + (2 * x6)) < (8000 : Int)) ∧ R32 (2 * x6) ∧ R32 (x3 + (2 * x6)) ∧ R32 ((x3 + (2 * x6)) + 1) ∧ ((0 : Int) ≤ ((x3 + (2 * x6)) + 1) ∧ ((x3 + (2 * x6)) + 1) < (8000 : Int)) ∧ wp_M_behind x5 (sA (sA m 24 (x3 + (2 * x6)) x5) 24 ((x3 + (2 * x6)) + 1) x2) (fun r_1 => R32 (x6 + (-1)) ∧ M_pushAll_32 n32 x2 x3 x4 r_1 (x6 + (-1)) (sA (sA m 24 (x3 + (2 * x6)) x5) 24 ((x3 + (2 * x6)) + 1) x2) K)))
def M_pushAll_19  (x1 : Int) (x2 : Int) (x3 : Int) (s0 : Int) (m : Ob) (K : Int → Ob → Prop) : Prop :=
  R32 (x1 + 1) ∧ R32 (s0 - 1) ∧ ∃ n32, M_pushAll_32 n32 x2 x3 s0 (x1 + 1) (s0 - 1) m K
def wp_M_pushAll (x1 : Int) (x2 : Int) (x3 : Int) (m : Ob) (K : Int → Ob → Prop) : Prop :=
  ((0 : Int) ≤ x1 ∧ x1 < (1000 : Int)) ∧ (((m.2.1 10 x1) ≤ 0 → M_pushAll_19 x1 x2 x3 0 m K) ∧ (¬ (m.2.1 10 x1) ≤ 0 → ((0 : Int) ≤ x1 ∧ x1 < (1000 : Int)) ∧ M_pushAll_19 x1 x2 x3 (m.2.1 10 x1) m K))
def M_stands_90 (L24 : Int → Int → Int → Ob → Prop) (x1 : Int) (x4 : Int) (x5 : Int) (m : Ob) (K : Int → Ob → Prop) : Prop :=
  R32 (x5 - 2) ∧ wp_M_pushAll (m.1 19) (m.1 20) (x5 - 2) m (fun r_3 m_2 => L24 x1 x4 r_3 m_2)
def M_stands_24  : Nat → Int → Int → Int → Ob → (Int → Ob → Prop) → Prop
  | 0, _, _, _, _, _ => False
  | n24 + 1, x1, x4, x5, m, K => ((x5 ≤ x4 → K 0 m) ∧ (¬ x5 ≤ x4 → R32 (x5 - 2) ∧ ((0 : Int) ≤ (x5 - 2) ∧ (x5 - 2) < (8000 : Int)) ∧ R32 (x5 - 1) ∧ ((0 : Int) ≤ (x5 - 1) ∧ (x5 - 1) < (8000 : Int)) ∧ wp_M_follow (m.2.1 24 (x5 - 2)) (m.2.1 24 (x5 - 1)) m (fun m_1 => ((0 : Int) ≤ (m_1.1 19) ∧ (m_1.1 19) < (1000 : Int)) ∧ ((¬ (m_1.2.1 10 (m_1.1 19)) = (-1) → M_stands_90 (fun x1 x4 x5 m' => M_stands_24 n24 x1 x4 x5 m' K) x1 x4 x5 m_1 K) ∧ ((m_1.2.1 10 (m_1.1 19)) = (-1) → R32 (8 * (m_1.1 20)) ∧ ((0 : Int) ≤ (m_1.1 19) ∧ (m_1.1 19) < (1000 : Int)) ∧ (m_1.2.2.2 2 (m_1.1 19)) < 2147483648 ∧ R32 ((8 * (m_1.1 20)) + (((m_1.2.2.2 2 (m_1.1 19)) : Nat) : Int)) ∧ ((¬ ((8 * (m_1.1 20)) + (((m_1.2.2.2 2 (m_1.1 19)) : Nat) : Int)) = x1 → M_stands_90 (fun x1 x4 x5 m' => M_stands_24 n24 x1 x4 x5 m' K) x1 x4 x5 m_1 K) ∧ (((8 * (m_1.1 20)) + (((m_1.2.2.2 2 (m_1.1 19)) : Nat) : Int)) = x1 → K 1 m_1)))))))
def wp_M_stands (x1 : Int) (x2 : Int) (x3 : Int) (x4 : Int) (m : Ob) (K : Int → Ob → Prop) : Prop :=
  ((0 : Int) ≤ x4 ∧ x4 < (8000 : Int)) ∧ R32 (x4 + 1) ∧ ((0 : Int) ≤ (x4 + 1) ∧ (x4 + 1) < (8000 : Int)) ∧ R32 (x4 + 2) ∧ ∃ n24, M_stands_24 n24 x1 x4 (x4 + 2) (sA (sA m 24 x4 x2) 24 (x4 + 1) x3) K
def wp_M_bind (x1 : Int) (x2 : Int) (x3 : Int) (x4 : Int) (m : Ob) (K : Int → Ob → Prop) : Prop :=
  wp_M_stands x1 x2 x3 x4 m (fun r_2 m_1 => ((r_2 = 0 → ((0 : Int) ≤ x1 ∧ x1 < (488 : Int)) ∧ ((0 : Int) ≤ x1 ∧ x1 < (488 : Int)) ∧ K 1 (sA (sA m_1 22 x1 x2) 23 x1 x3)) ∧ (¬ r_2 = 0 → K 0 m_1)))
def M_equalize_430 (L32 : Int → Ob → Prop) (x5 : Int) (m : Ob) (K : Int → Ob → Prop) : Prop :=
  L32 x5 m
def M_equalize_343 (L32 : Int → Ob → Prop) : Nat → Int → Int → Int → Int → Int → Int → Int → Int → Ob → (Int → Ob → Prop) → Prop
  | 0, _, _, _, _, _, _, _, _, _, _ => False
  | n343 + 1, x5, x6, x7, x9, x15, x16, x17, x18, m, K => ((0 : Int) ≤ x6 ∧ x6 < (1000 : Int)) ∧ (((m.2.1 10 x6) ≤ x18 → M_equalize_430 L32 x5 m K) ∧ (¬ (m.2.1 10 x6) ≤ x18 → ((¬ x15 = 0 → M_equalize_430 L32 x5 m K) ∧ (x15 = 0 → ((0 : Int) ≤ x5 ∧ x5 < (8000 : Int)) ∧ R32 (x5 + 1) ∧ ((0 : Int) ≤ (x5 + 1) ∧ (x5 + 1) < (8000 : Int)) ∧ R32 (x5 + 2) ∧ ((0 : Int) ≤ (x5 + 2) ∧ (x5 + 2) < (8000 : Int)) ∧ R32 (x5 + 3) ∧ ((0 : Int) ≤ (x5 + 3) ∧ (x5 + 3) < (8000 : Int)) ∧ R32 (x5 + 4) ∧ wp_M_behind x16 (sA (sA (sA (sA m 24 x5 x16) 24 (x5 + 1) x7) 24 (x5 + 2) x17) 24 (x5 + 3) x9) (fun r_3 => wp_M_behind x17 (sA (sA (sA (sA m 24 x5 x16) 24 (x5 + 1) x7) 24 (x5 + 2) x17) 24 (x5 + 3) x9) (fun r_4 => R32 (x18 + 1) ∧ M_equalize_343 L32 n343 (x5 + 4) x6 x7 x9 x15 r_3 r_4 (x18 + 1) (sA (sA (sA (sA m 24 x5 x16) 24 (x5 + 1) x7) 24 (x5 + 2) x17) 24 (x5 + 3) x9) K))))))
def M_equalize_328 (L32 : Int → Ob → Prop) (x5 : Int) (x6 : Int) (x7 : Int) (x8 : Int) (x9 : Int) (x15 : Int) (m : Ob) (K : Int → Ob → Prop) : Prop :=
  R32 (x6 + 1) ∧ R32 (x8 + 1) ∧ ∃ n343, M_equalize_343 L32 n343 x5 x6 x7 x9 x15 (x6 + 1) (x8 + 1) 0 m K
def M_equalize_286 (L32 : Int → Ob → Prop) (x5 : Int) (x6 : Int) (x7 : Int) (x8 : Int) (x9 : Int) (x15 : Int) (m : Ob) (K : Int → Ob → Prop) : Prop :=
  ((¬ x15 = 0 → M_equalize_328 L32 x5 x6 x7 x8 x9 x15 m K) ∧ (x15 = 0 → ((0 : Int) ≤ x6 ∧ x6 < (1000 : Int)) ∧ ((0 : Int) ≤ x8 ∧ x8 < (1000 : Int)) ∧ ((¬ (m.2.2.2 2 x6) = (m.2.2.2 2 x8) → K 0 m) ∧ ((m.2.2.2 2 x6) = (m.2.2.2 2 x8) → ((0 : Int) ≤ x6 ∧ x6 < (1000 : Int)) ∧ ((0 : Int) ≤ x8 ∧ x8 < (1000 : Int)) ∧ (((m.2.1 10 x6) = (m.2.1 10 x8) → M_equalize_328 L32 x5 x6 x7 x8 x9 x15 m K) ∧ (¬ (m.2.1 10 x6) = (m.2.1 10 x8) → K 0 m))))))
def M_equalize_234 (L32 : Int → Ob → Prop) (x5 : Int) (x6 : Int) (x7 : Int) (x8 : Int) (x9 : Int) (x10 : Int) (x12 : Int) (x13 : Int) (x14 : Int) (s0 : Int) (m : Ob) (K : Int → Ob → Prop) : Prop :=
  ((s0 = 0 → M_equalize_286 L32 x5 x6 x7 x8 x9 s0 m K) ∧ (¬ s0 = 0 → ((¬ x14 = 0 → M_equalize_286 L32 x5 x6 x7 x8 x9 s0 m K) ∧ (x14 = 0 → ((x10 = 0 → wp_M_bind x13 x6 x7 x5 m (fun r_6 m_5 => ((¬ r_6 = 0 → M_equalize_286 L32 x5 x6 x7 x8 x9 s0 m_5 K) ∧ (r_6 = 0 → K 0 m_5)))) ∧ (¬ x10 = 0 → wp_M_bind x12 x8 x9 x5 m (fun r_8 m_7 => ((r_8 = 0 → K 0 m_7) ∧ (¬ r_8 = 0 → M_equalize_286 L32 x5 x6 x7 x8 x9 s0 m_7 K)))))))))
def M_equalize_229 (L32 : Int → Ob → Prop) (x5 : Int) (x6 : Int) (x7 : Int) (x8 : Int) (x9 : Int) (x10 : Int) (x12 : Int) (x13 : Int) (x14 : Int) (m : Ob) (K : Int → Ob → Prop) : Prop :=
  M_equalize_234 L32 x5 x6 x7 x8 x9 x10 x12 x13 x14 1 m K
def M_equalize_217 (L32 : Int → Ob → Prop) (x5 : Int) (x6 : Int) (x7 : Int) (x8 : Int) (x9 : Int) (x10 : Int) (x11 : Int) (x12 : Int) (x13 : Int) (s0 : Int) (m : Ob) (K : Int → Ob → Prop) : Prop :=
  ((¬ x10 = 0 → M_equalize_229 L32 x5 x6 x7 x8 x9 x10 x12 x13 s0 m K) ∧ (x10 = 0 → ((x11 = 0 → M_equalize_234 L32 x5 x6 x7 x8 x9 x10 x12 x13 s0 0 m K) ∧ (¬ x11 = 0 → M_equalize_229 L32 x5 x6 x7 x8 x9 x10 x12 x13 s0 m K))))
def M_equalize_216 (L32 : Int → Ob → Prop) (x5 : Int) (x6 : Int) (x7 : Int) (x8 : Int) (x9 : Int) (x10 : Int) (x11 : Int) (x12 : Int) (x13 : Int) (m : Ob) (K : Int → Ob → Prop) : Prop :=
  M_equalize_217 L32 x5 x6 x7 x8 x9 x10 x11 x12 x13 0 m K
def M_equalize_193 (L32 : Int → Ob → Prop) (x5 : Int) (x6 : Int) (x7 : Int) (x8 : Int) (x9 : Int) (x10 : Int) (x11 : Int) (x12 : Int) (s0 : Int) (m : Ob) (K : Int → Ob → Prop) : Prop :=
  ((x10 = 0 → M_equalize_216 L32 x5 x6 x7 x8 x9 x10 x11 x12 s0 m K) ∧ (¬ x10 = 0 → ((x11 = 0 → M_equalize_216 L32 x5 x6 x7 x8 x9 x10 x11 x12 s0 m K) ∧ (¬ x11 = 0 → ((¬ x12 = s0 → M_equalize_216 L32 x5 x6 x7 x8 x9 x10 x11 x12 s0 m K) ∧ (x12 = s0 → M_equalize_217 L32 x5 x6 x7 x8 x9 x10 x11 x12 s0 1 m K))))))
def M_equalize_168 (L32 : Int → Ob → Prop) (x5 : Int) (x6 : Int) (x7 : Int) (x8 : Int) (x9 : Int) (x10 : Int) (x11 : Int) (s0 : Int) (m : Ob) (K : Int → Ob → Prop) : Prop :=
  ((x11 = 0 → M_equalize_193 L32 x5 x6 x7 x8 x9 x10 x11 s0 (-1) m K) ∧ (¬ x11 = 0 → R32 (8 * x9) ∧ ((0 : Int) ≤ x8 ∧ x8 < (1000 : Int)) ∧ (m.2.2.2 2 x8) < 2147483648 ∧ R32 ((8 * x9) + (((m.2.2.2 2 x8) : Nat) : Int)) ∧ M_equalize_193 L32 x5 x6 x7 x8 x9 x10 x11 s0 ((8 * x9) + (((m.2.2.2 2 x8) : Nat) : Int)) m K))
def M_equalize_143 (L32 : Int → Ob → Prop) (x5 : Int) (x6 : Int) (x7 : Int) (x8 : Int) (x9 : Int) (x10 : Int) (s0 : Int) (m : Ob) (K : Int → Ob → Prop) : Prop :=
  ((x10 = 0 → M_equalize_168 L32 x5 x6 x7 x8 x9 x10 s0 (-1) m K) ∧ (¬ x10 = 0 → R32 (8 * x7) ∧ ((0 : Int) ≤ x6 ∧ x6 < (1000 : Int)) ∧ (m.2.2.2 2 x6) < 2147483648 ∧ R32 ((8 * x7) + (((m.2.2.2 2 x6) : Nat) : Int)) ∧ M_equalize_168 L32 x5 x6 x7 x8 x9 x10 s0 ((8 * x7) + (((m.2.2.2 2 x6) : Nat) : Int)) m K))
def M_equalize_125 (L32 : Int → Ob → Prop) (x5 : Int) (x6 : Int) (x7 : Int) (x8 : Int) (x9 : Int) (s0 : Int) (m : Ob) (K : Int → Ob → Prop) : Prop :=
  ((0 : Int) ≤ x8 ∧ x8 < (1000 : Int)) ∧ ((¬ (m.2.1 10 x8) = (-1) → M_equalize_143 L32 x5 x6 x7 x8 x9 s0 0 m K) ∧ ((m.2.1 10 x8) = (-1) → M_equalize_143 L32 x5 x6 x7 x8 x9 s0 1 m K))
def M_equalize_32  : Nat → Int → Ob → (Int → Ob → Prop) → Prop
  | 0, _, _, _ => False
  | n32 + 1, x5, m, K => ((x5 ≤ 0 → K 1 m) ∧ (¬ x5 ≤ 0 → R32 (x5 - 4) ∧ ((0 : Int) ≤ (x5 - 4) ∧ (x5 - 4) < (8000 : Int)) ∧ R32 ((x5 - 4) + 1) ∧ ((0 : Int) ≤ ((x5 - 4) + 1) ∧ ((x5 - 4) + 1) < (8000 : Int)) ∧ wp_M_follow (m.2.1 24 (x5 - 4)) (m.2.1 24 ((x5 - 4) + 1)) m (fun m_1 => R32 ((x5 - 4) + 2) ∧ ((0 : Int) ≤ ((x5 - 4) + 2) ∧ ((x5 - 4) + 2) < (8000 : Int)) ∧ R32 ((x5 - 4) + 3) ∧ ((0 : Int) ≤ ((x5 - 4) + 3) ∧ ((x5 - 4) + 3) < (8000 : Int)) ∧ wp_M_follow (m_1.2.1 24 ((x5 - 4) + 2)) (m_1.2.1 24 ((x5 - 4) + 3)) m_1 (fun m_2 => ((0 : Int) ≤ (m_1.1 19) ∧ (m_1.1 19) < (1000 : Int)) ∧ ((¬ (m_2.2.1 10 (m_1.1 19)) = (-1) → M_equalize_125 (fun x5 m' => M_equalize_32 n32 x5 m' K) (x5 - 4) (m_1.1 19) (m_1.1 20) (m_2.1 19) (m_2.1 20) 0 m_2 K) ∧ ((m_2.2.1 10 (m_1.1 19)) = (-1) → M_equalize_125 (fun x5 m' => M_equalize_32 n32 x5 m' K) (x5 - 4) (m_1.1 19) (m_1.1 20) (m_2.1 19) (m_2.1 20) 1 m_2 K))))))
def wp_M_equalize (x1 : Int) (x2 : Int) (x3 : Int) (x4 : Int) (m : Ob) (K : Int → Ob → Prop) : Prop :=
  ((0 : Int) ≤ 0 ∧ 0 < (8000 : Int)) ∧ ((0 : Int) ≤ 1 ∧ 1 < (8000 : Int)) ∧ ((0 : Int) ≤ 2 ∧ 2 < (8000 : Int)) ∧ ((0 : Int) ≤ 3 ∧ 3 < (8000 : Int)) ∧ ∃ n32, M_equalize_32 n32 4 (sA (sA (sA (sA m 24 0 x1) 24 1 x2) 24 2 x3) 24 3 x4) K
def M_symbolsOf_19  : Nat → Int → Int → Ob → (Int → Ob → Prop) → Prop
  | 0, _, _, _, _ => False
  | n19 + 1, x3, x4, m, K => ((x4 ≤ 0 → K x3 m) ∧ (¬ x4 ≤ 0 → ((121 ≤ x3 → K x3 m) ∧ (¬ 121 ≤ x3 → R32 (x4 - 2) ∧ ((0 : Int) ≤ (x4 - 2) ∧ (x4 - 2) < (8000 : Int)) ∧ R32 (x4 - 1) ∧ ((0 : Int) ≤ (x4 - 1) ∧ (x4 - 1) < (8000 : Int)) ∧ wp_M_follow (m.2.1 24 (x4 - 2)) (m.2.1 24 (x4 - 1)) m (fun m_1 => R32 (x3 + 1) ∧ R32 (x4 - 2) ∧ wp_M_pushAll (m_1.1 19) (m_1.1 20) (x4 - 2) m_1 (fun r_3 m_2 => M_symbolsOf_19 n19 (x3 + 1) r_3 m_2 K))))))
def wp_M_symbolsOf (x1 : Int) (x2 : Int) (m : Ob) (K : Int → Ob → Prop) : Prop :=
  ((0 : Int) ≤ 0 ∧ 0 < (8000 : Int)) ∧ ((0 : Int) ≤ 1 ∧ 1 < (8000 : Int)) ∧ ∃ n19, M_symbolsOf_19 n19 0 2 (sA (sA m 24 0 x1) 24 1 x2) K
def M_large_99  (x1 : Int) (m : Ob) (K : Int → Ob → Prop) : Prop :=
  ((x1 ≤ 120 → K 0 m) ∧ (¬ x1 ≤ 120 → K 1 m))
def M_large_65  : Nat → Int → Int → Ob → (Int → Ob → Prop) → Prop
  | 0, _, _, _, _ => False
  | n65 + 1, x1, x2, m, K => (((m.1 12) ≤ x2 → M_large_99 x1 m K) ∧ (¬ (m.1 12) ≤ x2 → ((121 ≤ x1 → M_large_99 x1 m K) ∧ (¬ 121 ≤ x1 → ((0 : Int) ≤ x2 ∧ x2 < (8 : Int)) ∧ wp_M_symbolsOf (m.2.1 14 x2) 0 m (fun r_2 m_1 => R32 (x1 + r_2) ∧ R32 (x2 + 1) ∧ M_large_65 n65 (x1 + r_2) (x2 + 1) m_1 K)))))
def M_large_63  (x1 : Int) (m : Ob) (K : Int → Ob → Prop) : Prop :=
  ∃ n65, M_large_65 n65 x1 0 m K
def M_large_55 (L4 : Int → Int → Ob → Prop) (x2 : Int) (s0 : Int) (s1 : Int) (m : Ob) (K : Int → Ob → Prop) : Prop :=
  R32 (s1 + s0) ∧ R32 (x2 + 1) ∧ L4 (s1 + s0) (x2 + 1) m
def M_large_4  : Nat → Int → Int → Ob → (Int → Ob → Prop) → Prop
  | 0, _, _, _, _ => False
  | n4 + 1, x1, x2, m, K => (((m.1 18) ≤ x2 → M_large_63 x1 m K) ∧ (¬ (m.1 18) ≤ x2 → ((121 ≤ x1 → M_large_63 x1 m K) ∧ (¬ 121 ≤ x1 → ((0 : Int) ≤ x2 ∧ x2 < (300 : Int)) ∧ ((0 : Int) ≤ (m.2.1 19 x2) ∧ (m.2.1 19 x2) < (1000 : Int)) ∧ ((¬ (m.2.1 10 (m.2.1 19 x2)) = (-2) → ((0 : Int) ≤ x2 ∧ x2 < (300 : Int)) ∧ ((0 : Int) ≤ x2 ∧ x2 < (300 : Int)) ∧ wp_M_symbolsOf (m.2.1 19 x2) (m.2.1 20 x2) m (fun r_4 m_3 => M_large_55 (fun x1 x2 m' => M_large_4 n4 x1 x2 m' K) x2 r_4 x1 m_3 K)) ∧ ((m.2.1 10 (m.2.1 19 x2)) = (-2) → M_large_55 (fun x1 x2 m' => M_large_4 n4 x1 x2 m' K) x2 1 x1 m K))))))
def wp_M_large  (m : Ob) (K : Int → Ob → Prop) : Prop :=
  ∃ n4, M_large_4 n4 0 0 m K
def wp_M_resolve (x1 : Int) (x2 : Int) (m : Ob) (K : Ob → Prop) : Prop :=
  ((0 : Int) ≤ (m.1 18) ∧ (m.1 18) < (300 : Int)) ∧ ((0 : Int) ≤ (m.1 18) ∧ (m.1 18) < (300 : Int)) ∧ ((0 : Int) ≤ (m.1 16) ∧ (m.1 16) < (61 : Int)) ∧ ((0 : Int) ≤ (m.1 16) ∧ (m.1 16) < (61 : Int)) ∧ R32 ((m.1 16) + 1) ∧ R32 ((m.1 15) + 1) ∧ wp_M_clearFrame ((m.1 16) + 1) (sI (sI (sA (sA m 15 (m.1 16) x1) 16 (m.1 16) x2) 16 ((m.1 16) + 1)) 15 ((m.1 15) + 1)) (fun m_1 => R32 (40 * x1) ∧ wp_M_equalize (40 * x1) (m_1.1 16) (m.2.1 19 (m.1 18)) (m.2.1 20 (m.1 18)) m_1 (fun r_3 m_2 => ((¬ r_3 = 0 → wp_M_prepend x1 (m_2.1 16) x2 (sI m_2 13 1) (fun m_4 => wp_M_large m_4 (fun r_6 m_5 => ((r_6 = 0 → K m_5) ∧ (¬ r_6 = 0 → wp_M_end 4 m_5 (fun m_7 => K m_7)))))) ∧ (r_3 = 0 → K (sI m_2 13 3)))))
def M_forward_187  (x3 : Int) (x4 : Int) (m : Ob) (K : Ob → Prop) : Prop :=
  wp_M_resolve x3 x4 m (fun m_7 => K m_7)
def M_forward_112  (x1 : Int) (x2 : Int) (s0 : Int) (m : Ob) (K : Ob → Prop) : Prop :=
  ((0 ≤ s0 → ((¬ (m.1 16) = 60 → wp_M_candidate x1 x2 s0 m (fun r_6 m_5 => ((r_6 < 0 → M_forward_187 s0 (m.1 17) m_5 K) ∧ (¬ r_6 < 0 → ((0 : Int) ≤ (m_5.1 17) ∧ (m_5.1 17) < (61 : Int)) ∧ ((0 : Int) ≤ (m_5.1 17) ∧ (m_5.1 17) < (61 : Int)) ∧ R32 ((m_5.1 17) + 1) ∧ M_forward_187 s0 (m.1 17) (sI (sA (sA m_5 17 (m_5.1 17) (m_5.1 16)) 18 (m_5.1 17) s0) 17 ((m_5.1 17) + 1)) K)))) ∧ ((m.1 16) = 60 → wp_M_end 3 m (fun m_8 => K m_8)))) ∧ (¬ 0 ≤ s0 → K (sI m 13 3)))
def M_forward_74  (s0 : Int) (m : Ob) (K : Ob → Prop) : Prop :=
  K (sI m 17 s0)
def wp_M_forward  (m : Ob) (K : Ob → Prop) : Prop :=
  R32 ((m.1 18) - 1) ∧ ((0 : Int) ≤ ((m.1 18) - 1) ∧ ((m.1 18) - 1) < (300 : Int)) ∧ ((0 : Int) ≤ ((m.1 18) - 1) ∧ ((m.1 18) - 1) < (300 : Int)) ∧ ((0 : Int) ≤ (m.2.1 19 ((m.1 18) - 1)) ∧ (m.2.1 19 ((m.1 18) - 1)) < (1000 : Int)) ∧ ((¬ (m.2.1 10 (m.2.1 19 ((m.1 18) - 1))) = (-2) → wp_M_isWordAlone (m.2.1 19 ((m.1 18) - 1)) 1702195828 (sI m 18 ((m.1 18) - 1)) (fun r_1 => ((r_1 = 0 → wp_M_isWordAlone (m.2.1 19 ((m.1 18) - 1)) 1818845542 (sI m 18 ((m.1 18) - 1)) (fun r_2 => ((r_2 = 0 → wp_M_candidate (m.2.1 19 ((m.1 18) - 1)) (m.2.1 20 ((m.1 18) - 1)) (-1) (sI m 18 ((m.1 18) - 1)) (fun r_4 m_3 => M_forward_112 (m.2.1 19 ((m.1 18) - 1)) (m.2.1 20 ((m.1 18) - 1)) r_4 m_3 K)) ∧ (¬ r_2 = 0 → M_forward_112 (m.2.1 19 ((m.1 18) - 1)) (m.2.1 20 ((m.1 18) - 1)) (-1) (sI m 18 ((m.1 18) - 1)) K)))) ∧ (¬ r_1 = 0 → K (sI m 18 ((m.1 18) - 1)))))) ∧ ((m.2.1 10 (m.2.1 19 ((m.1 18) - 1))) = (-2) → ((0 : Int) ≤ ((m.1 18) - 1) ∧ ((m.1 18) - 1) < (300 : Int)) ∧ (((m.2.1 21 ((m.1 18) - 1)) ≤ (m.1 17) → ((0 : Int) ≤ ((m.1 18) - 1) ∧ ((m.1 18) - 1) < (300 : Int)) ∧ M_forward_74 (m.2.1 21 ((m.1 18) - 1)) (sI m 18 ((m.1 18) - 1)) K) ∧ (¬ (m.2.1 21 ((m.1 18) - 1)) ≤ (m.1 17) → M_forward_74 (m.1 17) (sI m 18 ((m.1 18) - 1)) K))))
def M_strip_49 (L0 : Ob → Prop)  (m : Ob) (K : Ob → Prop) : Prop :=
  R32 ((m.1 18) - 1) ∧ L0 (sI m 18 ((m.1 18) - 1))
def M_strip_0  : Nat → Ob → (Ob → Prop) → Prop
  | 0, _, _ => False
  | n0 + 1, m, K => (((m.1 18) ≤ 0 → K m) ∧ (¬ (m.1 18) ≤ 0 → R32 ((m.1 18) - 1) ∧ ((0 : Int) ≤ ((m.1 18) - 1) ∧ ((m.1 18) - 1) < (300 : Int)) ∧ ((0 : Int) ≤ (m.2.1 19 ((m.1 18) - 1)) ∧ (m.2.1 19 ((m.1 18) - 1)) < (1000 : Int)) ∧ (((m.2.1 10 (m.2.1 19 ((m.1 18) - 1))) = (-2) → M_strip_49 (fun m' => M_strip_0 n0 m' K) m K) ∧ (¬ (m.2.1 10 (m.2.1 19 ((m.1 18) - 1))) = (-2) → R32 ((m.1 18) - 1) ∧ ((0 : Int) ≤ ((m.1 18) - 1) ∧ ((m.1 18) - 1) < (300 : Int)) ∧ wp_M_isWordAlone (m.2.1 19 ((m.1 18) - 1)) 1702195828 m (fun r_1 => ((r_1 = 0 → K m) ∧ (¬ r_1 = 0 → M_strip_49 (fun m' => M_strip_0 n0 m' K) m K)))))))
def wp_M_strip  (m : Ob) (K : Ob → Prop) : Prop :=
  ∃ n0, M_strip_0 n0 m K
def M_again_92  (x1 : Int) (m : Ob) (K : Ob → Prop) : Prop :=
  wp_M_strip (sI m 16 x1) (fun m_2 => K m_2)
def M_again_6  : Nat → Int → Int → Ob → (Ob → Prop) → Prop
  | 0, _, _, _, _ => False
  | n6 + 1, x1, x2, m, K => ((x1 ≤ x2 → M_again_92 x1 m K) ∧ (¬ x1 ≤ x2 → wp_M_strip m (fun m_3 => R32 ((m_3.1 18) - 1) ∧ R32 (x2 + 1) ∧ wp_M_clearFrame (x2 + 1) (sI m_3 18 ((m_3.1 18) - 1)) (fun m_4 => ((0 : Int) ≤ x2 ∧ x2 < (61 : Int)) ∧ R32 (40 * (m_4.2.1 15 x2)) ∧ R32 (x2 + 1) ∧ ((0 : Int) ≤ (m_4.1 18) ∧ (m_4.1 18) < (300 : Int)) ∧ ((0 : Int) ≤ (m_4.1 18) ∧ (m_4.1 18) < (300 : Int)) ∧ wp_M_equalize (40 * (m_4.2.1 15 x2)) (x2 + 1) (m_4.2.1 19 (m_4.1 18)) (m_4.2.1 20 (m_4.1 18)) m_4 (fun r_6 m_5 => ((0 : Int) ≤ x2 ∧ x2 < (61 : Int)) ∧ R32 (x2 + 1) ∧ ((0 : Int) ≤ x2 ∧ x2 < (61 : Int)) ∧ wp_M_prepend (m_5.2.1 15 x2) (x2 + 1) (m_5.2.1 16 x2) m_5 (fun m_7 => R32 (x2 + 1) ∧ M_again_6 n6 x1 (x2 + 1) m_7 K))))))
def wp_M_again (x1 : Int) (m : Ob) (K : Ob → Prop) : Prop :=
  wp_M_begin m (fun m_1 => ∃ n6, M_again_6 n6 x1 0 m_1 K)
def M_back_97  (x1 : Int) (x2 : Int) (s0 : Int) (m : Ob) (K : Ob → Prop) : Prop :=
  wp_M_resolve x2 x1 (sI m 17 s0) (fun m_6 => K m_6)
def wp_M_back  (m : Ob) (K : Ob → Prop) : Prop :=
  R32 ((m.1 17) - 1) ∧ ((0 : Int) ≤ ((m.1 17) - 1) ∧ ((m.1 17) - 1) < (61 : Int)) ∧ wp_M_again (m.2.1 17 ((m.1 17) - 1)) m (fun m_1 => R32 ((m_1.1 18) - 1) ∧ ((0 : Int) ≤ ((m_1.1 18) - 1) ∧ ((m_1.1 18) - 1) < (300 : Int)) ∧ ((0 : Int) ≤ ((m_1.1 18) - 1) ∧ ((m_1.1 18) - 1) < (300 : Int)) ∧ ((0 : Int) ≤ ((m.1 17) - 1) ∧ ((m.1 17) - 1) < (61 : Int)) ∧ wp_M_candidate (m_1.2.1 19 ((m_1.1 18) - 1)) (m_1.2.1 20 ((m_1.1 18) - 1)) (m_1.2.1 18 ((m.1 17) - 1)) (sI m_1 18 ((m_1.1 18) - 1)) (fun r_3 m_2 => ((0 : Int) ≤ ((m.1 17) - 1) ∧ ((m.1 17) - 1) < (61 : Int)) ∧ ((0 : Int) ≤ (m_2.1 18) ∧ (m_2.1 18) < (300 : Int)) ∧ ((0 : Int) ≤ (m_2.1 18) ∧ (m_2.1 18) < (300 : Int)) ∧ wp_M_candidate (m_2.2.1 19 (m_2.1 18)) (m_2.2.1 20 (m_2.1 18)) r_3 (sA m_2 18 ((m.1 17) - 1) r_3) (fun r_5 m_4 => ((0 ≤ r_5 → R32 (((m.1 17) - 1) + 1) ∧ M_back_97 ((m.1 17) - 1) r_3 (((m.1 17) - 1) + 1) m_4 K) ∧ (¬ 0 ≤ r_5 → M_back_97 ((m.1 17) - 1) r_3 ((m.1 17) - 1) m_4 K)))))
def M_step_42   (m : Ob) (K : Ob → Prop) : Prop :=
  ((¬ (m.1 13) = 3 → K m) ∧ ((m.1 13) = 3 → ((¬ (m.1 17) = 0 → K m) ∧ ((m.1 17) = 0 → wp_M_end 0 m (fun m_2 => K m_2)))))
def M_step_19   (m : Ob) (K : Ob → Prop) : Prop :=
  ((¬ (m.1 13) = 1 → M_step_42 m K) ∧ ((m.1 13) = 1 → ((¬ (m.1 18) = 0 → M_step_42 m K) ∧ ((m.1 18) = 0 → K (sI m 13 2)))))
def wp_M_step  (m : Ob) (K : Ob → Prop) : Prop :=
  ((¬ (m.1 13) = 1 → wp_M_back m (fun m_1 => M_step_19 m_1 K)) ∧ ((m.1 13) = 1 → wp_M_forward m (fun m_3 => M_step_19 m_3 K)))
def M_run_75   (m : Ob) (K : Int → Ob → Prop) : Prop :=
  ((¬ (m.1 13) = 4 → K 2 m) ∧ ((m.1 13) = 4 → K (m.1 14) m))
def M_run_42  : Nat → Int → Int → Ob → (Int → Ob → Prop) → Prop
  | 0, _, _, _, _ => False
  | n42 + 1, x1, x2, m, K => ((x1 ≤ x2 → M_run_75 m K) ∧ (¬ x1 ≤ x2 → (((m.1 13) = 4 → M_run_75 m K) ∧ (¬ (m.1 13) = 4 → wp_M_step m (fun m_1 => ((¬ (m_1.1 13) = 2 → R32 (x2 + 1) ∧ M_run_42 n42 x1 (x2 + 1) m_1 K) ∧ ((m_1.1 13) = 2 → K 1 m_1)))))))
def M_run_40  (x1 : Int) (m : Ob) (K : Int → Ob → Prop) : Prop :=
  ∃ n42, M_run_42 n42 x1 0 m K
def wp_M_run (x1 : Int) (m : Ob) (K : Int → Ob → Prop) : Prop :=
  (((m.1 13) = 0 → K (-1) m) ∧ (¬ (m.1 13) = 0 → ((x1 < 1 → K (-1) m) ∧ (¬ x1 < 1 → ((x1 ≤ 100 → ((¬ (m.1 13) = 2 → M_run_40 x1 m K) ∧ ((m.1 13) = 2 → ((¬ (m.1 17) = 0 → M_run_40 x1 m K) ∧ ((m.1 17) = 0 → wp_M_end 0 m (fun m_2 => M_run_40 x1 m_2 K)))))) ∧ (¬ x1 ≤ 100 → K (-1) m))))))
def wp_M_later (x1 : Int) (x2 : Int) (x3 : Int) (x4 : Int) (m : Ob) (K : Int → Ob → Prop) : Prop :=
  ((0 : Int) ≤ x1 ∧ x1 < (8000 : Int)) ∧ R32 (x1 + 1) ∧ ((0 : Int) ≤ (x1 + 1) ∧ (x1 + 1) < (8000 : Int)) ∧ R32 (x1 + 2) ∧ ((0 : Int) ≤ (x1 + 2) ∧ (x1 + 2) < (8000 : Int)) ∧ R32 (x1 + 3) ∧ K (x1 + 3) (sA (sA (sA m 24 x1 x2) 24 (x1 + 1) x3) 24 (x1 + 2) x4)
def wp_M_put (x1 : Int) (m : Ob) (K : Ob → Prop) : Prop :=
  ((0 : Int) ≤ (m.1 21) ∧ (m.1 21) < (3000 : Int)) ∧ R32 ((m.1 21) + 1) ∧ K (sI (sA m 25 (m.1 21) x1) 21 ((m.1 21) + 1))
def M_putVariable_92  (x1 : Int) (m : Ob) (K : Ob → Prop) : Prop :=
  ((0 : Int) ≤ x1 ∧ x1 < (488 : Int)) ∧ 0 ≤ (m.2.1 26 x1) ∧ R32 (48 + ((m.2.1 26 x1) % 10)) ∧ wp_M_put (48 + ((m.2.1 26 x1) % 10)) m (fun m_2 => K m_2)
def M_putVariable_62  (x1 : Int) (m : Ob) (K : Ob → Prop) : Prop :=
  ((0 : Int) ≤ x1 ∧ x1 < (488 : Int)) ∧ (((m.2.1 26 x1) ≤ 9 → M_putVariable_92 x1 m K) ∧ (¬ (m.2.1 26 x1) ≤ 9 → ((0 : Int) ≤ x1 ∧ x1 < (488 : Int)) ∧ 0 ≤ (m.2.1 26 x1) ∧ 0 ≤ ((m.2.1 26 x1) / 10) ∧ R32 (48 + (((m.2.1 26 x1) / 10) % 10)) ∧ wp_M_put (48 + (((m.2.1 26 x1) / 10) % 10)) m (fun m_3 => M_putVariable_92 x1 m_3 K)))
def M_putVariable_29  (x1 : Int) (m : Ob) (K : Ob → Prop) : Prop :=
  wp_M_put 95 m (fun m_1 => ((0 : Int) ≤ x1 ∧ x1 < (488 : Int)) ∧ (((m_1.2.1 26 x1) ≤ 99 → M_putVariable_62 x1 m_1 K) ∧ (¬ (m_1.2.1 26 x1) ≤ 99 → ((0 : Int) ≤ x1 ∧ x1 < (488 : Int)) ∧ 0 ≤ (m_1.2.1 26 x1) ∧ R32 (48 + ((m_1.2.1 26 x1) / 100)) ∧ wp_M_put (48 + ((m_1.2.1 26 x1) / 100)) m_1 (fun m_4 => M_putVariable_62 x1 m_4 K))))
def wp_M_putVariable (x1 : Int) (m : Ob) (K : Ob → Prop) : Prop :=
  ((0 : Int) ≤ x1 ∧ x1 < (488 : Int)) ∧ ((0 ≤ (m.2.1 26 x1) → M_putVariable_29 x1 m K) ∧ (¬ 0 ≤ (m.2.1 26 x1) → ((0 : Int) ≤ x1 ∧ x1 < (488 : Int)) ∧ R32 ((m.1 22) + 1) ∧ M_putVariable_29 x1 (sI (sA m 26 x1 (m.1 22)) 22 ((m.1 22) + 1)) K))
def M_putWord_32 (L2 : Nat → Int → Ob → Prop) (y1 : Nat) (x3 : Int) (m : Ob) (K : Ob → Prop) : Prop :=
  R32 (x3 + 1) ∧ L2 y1 (x3 + 1) m
def M_putWord_2  : Nat → Nat → Int → Ob → (Ob → Prop) → Prop
  | 0, _, _, _, _ => False
  | n2 + 1, y1, x3, m, K => ((8 ≤ x3 → K m) ∧ (¬ 8 ≤ x3 → R32 (8 * x3) ∧ (0 ≤ (8 * x3) ∧ (8 * x3) < 64) ∧ ((sar y1 (8 * x3).toNat) &&& 255) < 2147483648 ∧ (((((sar y1 (8 * x3).toNat) &&& 255 : Nat) : Int) = 0 → M_putWord_32 (fun y1 x3 m' => M_putWord_2 n2 y1 x3 m' K) y1 x3 m K) ∧ (¬ (((sar y1 (8 * x3).toNat) &&& 255 : Nat) : Int) = 0 → wp_M_put (((sar y1 (8 * x3).toNat) &&& 255 : Nat) : Int) m (fun m_1 => M_putWord_32 (fun y1 x3 m' => M_putWord_2 n2 y1 x3 m' K) y1 x3 m_1 K)))))
def wp_M_putWord (y1 : Nat) (m : Ob) (K : Ob → Prop) : Prop :=
  ∃ n2, M_putWord_2 n2 y1 0 m K
def M_writeTerm_221 (L155 : Int → Int → Int → Int → Ob → Prop) (x1 : Int) (x2 : Int) (x5 : Int) (s0 : Int) (m : Ob) (K : Int → Ob → Prop) : Prop :=
  R32 (x5 + (-1)) ∧ L155 x1 x2 s0 (x5 + (-1)) m
def M_writeTerm_189 (L155 : Int → Int → Int → Int → Ob → Prop) (x1 : Int) (x2 : Int) (x4 : Int) (x5 : Int) (x6 : Int) (m : Ob) (K : Int → Ob → Prop) : Prop :=
  wp_M_later x4 0 x6 x2 m (fun r_6 m_5 => ((x5 ≤ 0 → M_writeTerm_221 L155 x1 x2 x5 r_6 m_5 K) ∧ (¬ x5 ≤ 0 → wp_M_later r_6 1 44 0 m_5 (fun r_8 m_7 => M_writeTerm_221 L155 x1 x2 x5 r_8 m_7 K))))
def M_writeTerm_168 (L155 : Int → Int → Int → Int → Ob → Prop) : Nat → Int → Int → Int → Int → Int → Int → Ob → (Int → Ob → Prop) → Prop
  | 0, _, _, _, _, _, _, _, _ => False
  | n168 + 1, x1, x2, x4, x5, x6, x7, m, K => ((x5 ≤ x7 → M_writeTerm_189 L155 x1 x2 x4 x5 x6 m K) ∧ (¬ x5 ≤ x7 → wp_M_behind x6 m (fun r_9 => R32 (x7 + 1) ∧ M_writeTerm_168 L155 n168 x1 x2 x4 x5 r_9 (x7 + 1) m K)))
def M_writeTerm_155  : Nat → Int → Int → Int → Int → Ob → (Int → Ob → Prop) → Prop
  | 0, _, _, _, _, _, _ => False
  | n155 + 1, x1, x2, x4, x5, m, K => ((x5 < 0 → K x4 m) ∧ (¬ x5 < 0 → R32 (x1 + 1) ∧ ∃ n168, M_writeTerm_168 (fun x1 x2 x4 x5 m' => M_writeTerm_155 n155 x1 x2 x4 x5 m' K) n168 x1 x2 x4 x5 (x1 + 1) 0 m K))
def wp_M_writeTerm (x1 : Int) (x2 : Int) (x3 : Int) (m : Ob) (K : Int → Ob → Prop) : Prop :=
  ((0 : Int) ≤ x1 ∧ x1 < (1000 : Int)) ∧ ((¬ (m.2.1 10 x1) = (-1) → ((0 : Int) ≤ x1 ∧ x1 < (1000 : Int)) ∧ ((¬ (m.2.2.2 2 x1) = 1 → ((0 : Int) ≤ x1 ∧ x1 < (1000 : Int)) ∧ ((¬ (m.2.2.2 2 x1) = 2 → ((0 : Int) ≤ x1 ∧ x1 < (1000 : Int)) ∧ wp_M_putWord (m.2.2.2 2 x1) m (fun m_1 => ((0 : Int) ≤ x1 ∧ x1 < (1000 : Int)) ∧ ((¬ (m_1.2.1 10 x1) = 0 → wp_M_put 40 m_1 (fun m_2 => wp_M_later x3 1 41 0 m_2 (fun r_4 m_3 => ((0 : Int) ≤ x1 ∧ x1 < (1000 : Int)) ∧ R32 ((m_3.2.1 10 x1) - 1) ∧ ∃ n155, M_writeTerm_155 n155 x1 x2 r_4 ((m_3.2.1 10 x1) - 1) m_3 K))) ∧ ((m_1.2.1 10 x1) = 0 → K x3 m_1)))) ∧ ((m.2.2.2 2 x1) = 2 → wp_M_put 91 m (fun m_10 => wp_M_put 93 m_10 (fun m_11 => K x3 m_11))))) ∧ ((m.2.2.2 2 x1) = 1 → wp_M_put 91 m (fun m_12 => R32 (x1 + 1) ∧ wp_M_behind (x1 + 1) m_12 (fun r_13 => wp_M_later x3 2 r_13 x2 m_12 (fun r_15 m_14 => R32 (x1 + 1) ∧ wp_M_later r_15 0 (x1 + 1) x2 m_14 (fun r_17 m_16 => K r_17 m_16))))))) ∧ ((m.2.1 10 x1) = (-1) → R32 (8 * x2) ∧ ((0 : Int) ≤ x1 ∧ x1 < (1000 : Int)) ∧ (m.2.2.2 2 x1) < 2147483648 ∧ R32 ((8 * x2) + (((m.2.2.2 2 x1) : Nat) : Int)) ∧ wp_M_putVariable ((8 * x2) + (((m.2.2.2 2 x1) : Nat) : Int)) m (fun m_18 => K x3 m_18)))
def M_writeRest_85  (x1 : Int) (x2 : Int) (x3 : Int) (m : Ob) (K : Int → Ob → Prop) : Prop :=
  wp_M_put 124 m (fun m_1 => wp_M_later x3 1 93 0 m_1 (fun r_3 m_2 => wp_M_later r_3 0 x1 x2 m_2 (fun r_5 m_4 => K r_5 m_4)))
def M_writeRest_30  (x1 : Int) (x2 : Int) (x3 : Int) (m : Ob) (K : Int → Ob → Prop) : Prop :=
  ((0 : Int) ≤ x1 ∧ x1 < (1000 : Int)) ∧ ((¬ (m.2.1 10 x1) = 2 → M_writeRest_85 x1 x2 x3 m K) ∧ ((m.2.1 10 x1) = 2 → ((0 : Int) ≤ x1 ∧ x1 < (1000 : Int)) ∧ ((¬ (m.2.2.2 2 x1) = 1 → M_writeRest_85 x1 x2 x3 m K) ∧ ((m.2.2.2 2 x1) = 1 → wp_M_put 44 m (fun m_6 => R32 (x1 + 1) ∧ wp_M_behind (x1 + 1) m_6 (fun r_7 => wp_M_later x3 2 r_7 x2 m_6 (fun r_9 m_8 => R32 (x1 + 1) ∧ wp_M_later r_9 0 (x1 + 1) x2 m_8 (fun r_11 m_10 => K r_11 m_10))))))))
def wp_M_writeRest (x1 : Int) (x2 : Int) (x3 : Int) (m : Ob) (K : Int → Ob → Prop) : Prop :=
  ((0 : Int) ≤ x1 ∧ x1 < (1000 : Int)) ∧ ((¬ (m.2.1 10 x1) = 0 → M_writeRest_30 x1 x2 x3 m K) ∧ ((m.2.1 10 x1) = 0 → ((0 : Int) ≤ x1 ∧ x1 < (1000 : Int)) ∧ ((¬ (m.2.2.2 2 x1) = 2 → M_writeRest_30 x1 x2 x3 m K) ∧ ((m.2.2.2 2 x1) = 2 → wp_M_put 93 m (fun m_12 => K x3 m_12)))))
def M_write_101 (L14 : Int → Ob → Prop) (x2 : Int) (m : Ob) (K : Ob → Prop) : Prop :=
  L14 x2 m
def M_write_100 (L14 : Int → Ob → Prop) (s0 : Int) (m : Ob) (K : Ob → Prop) : Prop :=
  M_write_101 L14 s0 m K
def M_write_14  : Nat → Int → Ob → (Ob → Prop) → Prop
  | 0, _, _, _ => False
  | n14 + 1, x2, m, K => ((x2 ≤ 0 → K m) ∧ (¬ x2 ≤ 0 → R32 (x2 - 3) ∧ ((0 : Int) ≤ (x2 - 3) ∧ (x2 - 3) < (8000 : Int)) ∧ R32 ((x2 - 3) + 1) ∧ ((0 : Int) ≤ ((x2 - 3) + 1) ∧ ((x2 - 3) + 1) < (8000 : Int)) ∧ ((¬ (m.2.1 24 (x2 - 3)) = 1 → R32 ((x2 - 3) + 2) ∧ ((0 : Int) ≤ ((x2 - 3) + 2) ∧ ((x2 - 3) + 2) < (8000 : Int)) ∧ wp_M_follow (m.2.1 24 ((x2 - 3) + 1)) (m.2.1 24 ((x2 - 3) + 2)) m (fun m_3 => ((¬ (m.2.1 24 (x2 - 3)) = 0 → wp_M_writeRest (m_3.1 19) (m_3.1 20) (x2 - 3) m_3 (fun r_5 m_4 => M_write_100 (fun x2 m' => M_write_14 n14 x2 m' K) r_5 m_4 K)) ∧ ((m.2.1 24 (x2 - 3)) = 0 → wp_M_writeTerm (m_3.1 19) (m_3.1 20) (x2 - 3) m_3 (fun r_7 m_6 => M_write_100 (fun x2 m' => M_write_14 n14 x2 m' K) r_7 m_6 K))))) ∧ ((m.2.1 24 (x2 - 3)) = 1 → wp_M_put (m.2.1 24 ((x2 - 3) + 1)) m (fun m_8 => M_write_101 (fun x2 m' => M_write_14 n14 x2 m' K) (x2 - 3) m_8 K)))))
def wp_M_write (x1 : Int) (m : Ob) (K : Ob → Prop) : Prop :=
  wp_M_later 0 0 x1 0 (sI m 21 0) (fun r_2 m_1 => ∃ n14, M_write_14 n14 r_2 m_1 K)
def M_answer_76  (x2 : Int) (m : Ob) (K : Int → Ob → Prop) : Prop :=
  (((m.1 21) ≤ x2 → K 0 m) ∧ (¬ (m.1 21) ≤ x2 → ((0 : Int) ≤ x2 ∧ x2 < (3000 : Int)) ∧ (0 ≤ (m.2.1 25 x2) ∧ (m.2.1 25 x2) < 65536) ∧ (0 ≤ (m.2.1 25 x2) ∧ (m.2.1 25 x2) < 65536) ∧ K (m.2.1 25 x2) m))
def M_answer_55  : Nat → Int → Int → Int → Ob → (Int → Ob → Prop) → Prop
  | 0, _, _, _, _, _ => False
  | n55 + 1, x1, x2, x3, m, K => ((x1 < x3 → M_answer_76 x2 m K) ∧ (¬ x1 < x3 → ((0 : Int) ≤ x3 ∧ x3 < (8 : Int)) ∧ wp_M_write (m.2.1 14 x3) m (fun m_1 => R32 (x3 + 1) ∧ M_answer_55 n55 x1 x2 (x3 + 1) m_1 K)))
def M_answer_48  (x1 : Int) (x2 : Int) (m : Ob) (K : Int → Ob → Prop) : Prop :=
  ∃ n55, M_answer_55 n55 x1 x2 0 (sI m 22 0) K
def M_answer_28  : Nat → Int → Int → Int → Ob → (Int → Ob → Prop) → Prop
  | 0, _, _, _, _, _ => False
  | n28 + 1, x1, x2, x3, m, K => ((488 ≤ x3 → M_answer_48 x1 x2 m K) ∧ (¬ 488 ≤ x3 → ((0 : Int) ≤ x3 ∧ x3 < (488 : Int)) ∧ R32 (x3 + 1) ∧ M_answer_28 n28 x1 x2 (x3 + 1) (sA m 26 x3 (-1)) K))
def wp_M_answer (x1 : Int) (x2 : Int) (m : Ob) (K : Int → Ob → Prop) : Prop :=
  ((¬ (m.1 13) = 2 → K 0 m) ∧ ((m.1 13) = 2 → ((x1 < 0 → K 0 m) ∧ (¬ x1 < 0 → (((m.1 12) ≤ x1 → K 0 m) ∧ (¬ (m.1 12) ≤ x1 → ((0 ≤ x2 → ∃ n28, M_answer_28 n28 x1 x2 0 m K) ∧ (¬ 0 ≤ x2 → K 0 m))))))))
def wp_M_clauses  (m : Ob) (K : Int → Prop) : Prop :=
  K (m.1 10)
def wp_M_tries  (m : Ob) (K : Int → Prop) : Prop :=
  K (m.1 15)
def wp_M_choices  (m : Ob) (K : Int → Prop) : Prop :=
  K (m.1 17)
def wp_M_length  (m : Ob) (K : Int → Prop) : Prop :=
  K (m.1 16)
def M_goals_27   (m : Ob) (K : Int → Prop) : Prop :=
  K (m.1 18)
def wp_M_goals  (m : Ob) (K : Int → Prop) : Prop :=
  (((m.1 13) = 3 → K 0) ∧ (¬ (m.1 13) = 3 → ((¬ (m.1 13) = 4 → M_goals_27 m K) ∧ ((m.1 13) = 4 → ((¬ (m.1 14) = 0 → M_goals_27 m K) ∧ ((m.1 14) = 0 → K 0))))))
def wp_M_forget  (m : Ob) (K : Ob → Prop) : Prop :=
  wp_M_noSearch (sI (sI m 10 0) 11 0) (fun m_1 => K m_1)
