/-! printed by wip/gen/drive.py -/
theorem ct_Ter_variableCell {l : Launch} {o0 o1 o2 o3 o4 o5 te o7 o8 o9 o10 : Ob} {x1 : Int} {K : Int → Prop} {K' : Option AV → List AC → Prop} (H : wp_Ter_variableCell x1 te K) (hK : ∀ (r : Int), K r → K' (some (vI r)) (shC o0 o1 o2 o3 o4 o5 te o7 o8 o9 o10)) : MT l ⟨"PrunedSearch$Terms", "variableCell", "(I)I"⟩ prog_9_method_7_code 2 (some .int) 0 [vR 19, vI x1] (shC o0 o1 o2 o3 o4 o5 te o7 o8 o9 o10) K' := by
  unfold wp_Ter_variableCell at H
  refine MT_of (lv := [(0, vR 19), (1, vI x1)]) rfl rfl (Nat.le_of_ble_eq_true rfl) rfl ?_
  refine EV_iload_n 1 d_Ter_variableCell_0 rfl rfl ?_
  refine EV_if_lt (tgt := 29) d_Ter_variableCell_1 (by decide) (fun hc => ?_) (fun hc => ?_)
  · have H := H.1 hc
    refine EV_iconst d_Ter_variableCell_29 ⟨by decide, by decide⟩ ?_
    exact EV_iret d_Ter_variableCell_30 rfl (nw_int _) (hK _ H)
  · have H := H.2 hc
    refine EV_iload_n 1 d_Ter_variableCell_4 rfl rfl ?_
    refine EV_bipush d_Ter_variableCell_5 (by decide +kernel) ⟨by decide, by decide⟩ ?_
    refine EV_icmp_ge (tgt := 29) d_Ter_variableCell_7 (by decide) (fun hc => ?_) (fun hc => ?_)
    · have H := H.1 hc
      refine EV_iconst d_Ter_variableCell_29 ⟨by decide, by decide⟩ ?_
      exact EV_iret d_Ter_variableCell_30 rfl (nw_int _) (hK _ H)
    · have H := H.2 hc
      refine EV_aload_n 0 d_Ter_variableCell_10 rfl rfl ?_
      refine EV_get (j := 6) d_Ter_variableCell_11 shC_19 rfl fI6 (by decide) k_161 rfl ?_
      refine EV_iload_n 1 d_Ter_variableCell_14 rfl rfl ?_
      obtain ⟨hi, H⟩ := H
      refine EV_iald d_Ter_variableCell_15 shC_26 hi ?_
      refine EV_iconst d_Ter_variableCell_16 ⟨by decide, by decide⟩ ?_
      refine EV_icmp_eq (tgt := 29) d_Ter_variableCell_17 (by decide) (fun hc => ?_) (fun hc => ?_)
      · have H := H.1 hc
        refine EV_iconst d_Ter_variableCell_29 ⟨by decide, by decide⟩ ?_
        exact EV_iret d_Ter_variableCell_30 rfl (nw_int _) (hK _ H)
      · have H := H.2 hc
        refine EV_aload_n 0 d_Ter_variableCell_20 rfl rfl ?_
        refine EV_get (j := 6) d_Ter_variableCell_21 shC_19 rfl fI6 (by decide) k_161 rfl ?_
        refine EV_iload_n 1 d_Ter_variableCell_24 rfl rfl ?_
        obtain ⟨hi, H⟩ := H
        refine EV_iald d_Ter_variableCell_25 shC_26 hi ?_
        refine EV_goto (tgt := 30) d_Ter_variableCell_26 (by decide) ?_
        exact EV_iret d_Ter_variableCell_30 rfl (nw_int _) (hK _ H)
theorem ct_Sea_begin_70 {l : Launch} {o0 o1 o2 o3 rc o5 o8 o10 : Ob} {K : Ob → Ob → Ob → Prop} {K' : Option AV → List AC → Prop} {te go se : Ob} (H : Sea_begin_70 rc te go se K) (hK : ∀ (te' go' se' : Ob), K te' go' se' → K' none (shC o0 o1 o2 o3 rc o5 te' go' o8 se' o10)) : EV l prog_7_method_3_code "PrunedSearch$Search" 4 none 2 70 [(0, vR 38)] [] (shC o0 o1 o2 o3 rc o5 te go o8 se o10) K' := by
  refine EV_aload_n 0 d_Sea_begin_70 rfl rfl ?_
  refine EV_iconst d_Sea_begin_71 ⟨by decide, by decide⟩ ?_
  refine EV_put (j := 8) d_Sea_begin_72 shC_38 rfl fI9 fO9 fN9 (by decide) k_284 rfl rfl (fun ad => nf_int ad _) (Nat.le_of_ble_eq_true rfl) shC_38_8 ?_
  exact EV_vret d_Sea_begin_75 rfl (hK _ _ _ H)
theorem ct_Sea_begin_42 {l : Launch} {o0 o1 o2 o3 rc o5 o8 o10 : Ob} {K : Ob → Ob → Ob → Prop} {K' : Option AV → List AC → Prop} (hK : ∀ (te' go' se' : Ob), K te' go' se' → K' none (shC o0 o1 o2 o3 rc o5 te' go' o8 se' o10)) : ∀ (n : Nat) (x3 : Int) (te go se : Ob), Sea_begin_42 n x3 rc te go se K → EV l prog_7_method_3_code "PrunedSearch$Search" 4 none 2 42 [(0, vR 38), (3, vI x3)] [] (shC o0 o1 o2 o3 rc o5 te go o8 se o10) K' := by
  intro n
  induction n with
  | zero =>
    intro x3 te go se H
    exact H.elim
  | succ n ih =>
    intro x3 te go se H
    refine EV_iload_n 1 d_Sea_begin_42 rfl rfl ?_
    refine EV_aload_n 0 d_Sea_begin_43 rfl rfl ?_
    refine EV_get (j := 7) d_Sea_begin_44 shC_38 rfl fI9 (by decide) k_283 rfl ?_
    refine EV_icmp_ge (tgt := 70) d_Sea_begin_47 (by decide) (fun hc => ?_) (fun hc => ?_)
    · have H := H.1 hc
      refine EV_lv (lv' := [(0, vR 38)]) [0] rfl ?_
      exact ct_Sea_begin_70 H hK
    · have H := H.2 hc
      refine EV_aload_n 0 d_Sea_begin_50 rfl rfl ?_
      refine EV_get (j := 6) d_Sea_begin_51 shC_38 rfl fI9 (by decide) k_282 rfl ?_
      refine EV_iload_n 1 d_Sea_begin_54 rfl rfl ?_
      refine EV_aload_n 0 d_Sea_begin_55 rfl rfl ?_
      refine EV_get (j := 2) d_Sea_begin_56 shC_38 rfl fI9 (by decide) k_278 rfl ?_
      refine EV_iload_n 1 d_Sea_begin_59 rfl rfl ?_
      refine EV_callV (as := [vI x3]) (st := [vI x3, vR 39]) d_Sea_begin_60 k_681 k_682 k_683 k_8 k_684 shC_19 rfl pd_109 ⟨by decide, by decide, Nat.le_of_ble_eq_true rfl⟩ rfl (ct_Ter_variableCell H (fun r_5 H => ?_))
      obtain ⟨hi, H⟩ := H
      refine EV_iast d_Sea_begin_63 shC_39 hi shC_39_s ?_
      obtain ⟨hr, H⟩ := H
      refine EV_iinc (lv' := [(0, vR 38), (3, vI (x3 + 1))]) 1 [1, 0] d_Sea_begin_64 rfl (by decide) hr rfl ?_
      refine EV_goto (tgt := 42) d_Sea_begin_67 (by decide) ?_
      exact ih (x3 + 1) te go (sA se 0 x3 r_5) H
theorem ct_Sea_begin {l : Launch} {o0 o1 o2 o3 rc o5 te go o8 se o10 : Ob} {x2 : Int} {K : Ob → Ob → Ob → Prop} {K' : Option AV → List AC → Prop} (H : wp_Sea_begin x2 rc te go se K) (hK : ∀ (te' go' se' : Ob), K te' go' se' → K' none (shC o0 o1 o2 o3 rc o5 te' go' o8 se' o10)) : MT l ⟨"PrunedSearch$Search", "begin", "(LPrunedSearch$Code;I)V"⟩ prog_7_method_3_code 4 none 2 [vR 38, vR 13, vI x2] (shC o0 o1 o2 o3 rc o5 te go o8 se o10) K' := by
  unfold wp_Sea_begin at H
  refine MT_of (lv := [(0, vR 38), (1, vR 13), (2, vI x2)]) rfl rfl (Nat.le_of_ble_eq_true rfl) rfl ?_
  refine EV_aload_n 0 d_Sea_begin_0 rfl rfl ?_
  refine EV_get (j := 2) d_Sea_begin_1 shC_38 rfl fI9 (by decide) k_278 rfl ?_
  refine EV_aload_n 1 d_Sea_begin_4 rfl rfl ?_
  refine EV_iconst d_Sea_begin_5 ⟨by decide, by decide⟩ ?_
  refine EV_callV (as := [vR 13, vI 0]) (st := []) d_Sea_begin_6 k_650 k_651 k_652 k_8 k_653 shC_19 rfl pd_112 ⟨by decide, by decide, Nat.le_of_ble_eq_true rfl⟩ rfl (ct_Ter_copy_r H (fun r_2 te_1 H => ?_))
  refine EV_pop d_Sea_begin_9 rfl ?_
  refine EV_aload_n 0 d_Sea_begin_10 rfl rfl ?_
  refine EV_get (j := 3) d_Sea_begin_11 shC_38 rfl fI9 (by decide) k_279 rfl ?_
  refine EV_aload_n 0 d_Sea_begin_14 rfl rfl ?_
  refine EV_get (j := 2) d_Sea_begin_15 shC_38 rfl fI9 (by decide) k_278 rfl ?_
  refine EV_iconst d_Sea_begin_18 ⟨by decide, by decide⟩ ?_
  refine EV_aload_n 0 d_Sea_begin_19 rfl rfl ?_
  refine EV_get (j := 2) d_Sea_begin_20 shC_38 rfl fI9 (by decide) k_278 rfl ?_
  refine EV_callV (as := []) (st := [vI 0, vR 19, vR 27]) d_Sea_begin_23 k_668 k_669 k_670 k_8 k_671 shC_19 rfl pd_111 ⟨by decide, by decide, Nat.le_of_ble_eq_true rfl⟩ rfl (ct_Ter_cellCount H (fun r_3 H => ?_))
  refine EV_iconst d_Sea_begin_26 ⟨by decide, by decide⟩ ?_
  refine EV_callV (as := [vR 19, vI 0, vI r_3, vI 0]) (st := []) d_Sea_begin_27 k_672 k_673 k_674 k_9 k_675 shC_27 rfl pd_110 ⟨by decide, by decide, Nat.le_of_ble_eq_true rfl⟩ rfl (ct_Goa_putBefore H (fun go_4 H => ?_))
  refine EV_aload_n 0 d_Sea_begin_30 rfl rfl ?_
  refine EV_iload_n 2 d_Sea_begin_31 rfl rfl ?_
  refine EV_bipush d_Sea_begin_32 (by decide +kernel) ⟨by decide, by decide⟩ ?_
  refine EV_mmin (st := [vR 38]) d_Sea_begin_34 k_680 k_386 k_15 k_387 ⟨by decide, Nat.le_of_ble_eq_true rfl⟩ ?_
  refine EV_put (j := 7) d_Sea_begin_37 shC_38 rfl fI9 fO9 fN9 (by decide) k_283 rfl rfl (fun ad => nf_int ad _) (Nat.le_of_ble_eq_true rfl) shC_38_7 ?_
  refine EV_iconst d_Sea_begin_40 ⟨by decide, by decide⟩ ?_
  refine EV_istore_n (lv' := [(0, vR 38), (1, vR 13), (2, vI x2), (3, vI 0)]) [1, 2, 3, 0] d_Sea_begin_41 rfl (by decide) rfl ?_
  refine EV_lv (lv' := [(0, vR 38), (3, vI 0)]) [0, 3] rfl ?_
  obtain ⟨n, H⟩ := H
  exact ct_Sea_begin_42 hK n 0 te_1 go_4 (sI se 0 (min x2 (8 : Int))) H
theorem ct_P_ask {l : Launch} {tx tk nm o3 rc rd te go ch se wr : Ob} {K : Int → Ob → Ob → Ob → Ob → Ob → Ob → Ob → Ob → Ob → Ob → Prop} {K' : Option AV → List AC → Prop} (H : wp_P_ask tx tk nm rc rd te go ch se wr K) (hK : ∀ (r : Int) (tx' tk' nm' rc' rd' te' go' ch' se' wr' : Ob), K r tx' tk' nm' rc' rd' te' go' ch' se' wr' → K' (some (vI r)) (shC tx' tk' nm' o3 rc' rd' te' go' ch' se' wr')) : MT l ⟨"PrunedSearch", "ask", "()I"⟩ prog_1_method_4_code 2 (some .int) 43 [vR 0] (shC tx tk nm o3 rc rd te go ch se wr) K' := by
  unfold wp_P_ask at H
  refine MT_of (lv := [(0, vR 0)]) rfl rfl (Nat.le_of_ble_eq_true rfl) rfl ?_
  refine EV_aload_n 0 d_P_ask_0 rfl rfl ?_
  refine EV_get (j := 4) d_P_ask_1 shC_0 rfl fI0 (by decide) k_323 rfl ?_
  refine EV_callV (as := []) (st := []) d_P_ask_4 k_445 k_446 k_447 k_7 k_448 shC_38 rfl pd_104 ⟨by decide, by decide, Nat.le_of_ble_eq_true rfl⟩ rfl (ct_Sea_end H (fun te_1 go_2 ch_3 se_4 wr_5 H => ?_))
  refine EV_aload_n 0 d_P_ask_7 rfl rfl ?_
  refine EV_get (j := 3) d_P_ask_8 shC_0 rfl fI0 (by decide) k_322 rfl ?_
  refine EV_aload_n 0 d_P_ask_11 rfl rfl ?_
  refine EV_get (j := 0) d_P_ask_12 shC_0 rfl fI0 (by decide) k_319 rfl ?_
  refine EV_callV (as := [vR 1]) (st := []) d_P_ask_15 k_642 k_643 k_644 k_5 k_645 shC_17 rfl pd_114 ⟨by decide, by decide, Nat.le_of_ble_eq_true rfl⟩ rfl (ct_Rd_readQuestion H (fun r_10 tk_6 nm_7 rc_8 rd_9 H => ?_))
  refine EV_istore_n (lv' := [(0, vR 0), (1, vI r_10)]) [1, 0] d_P_ask_18 rfl (by decide) rfl ?_
  refine EV_aload_n 0 d_P_ask_19 rfl rfl ?_
  refine EV_get (j := 0) d_P_ask_20 shC_0 rfl fI0 (by decide) k_319 rfl ?_
  refine EV_callV (as := []) (st := []) d_P_ask_23 k_615 k_616 k_617 k_2 k_618 shC_1 rfl pd_102 ⟨by decide, by decide, Nat.le_of_ble_eq_true rfl⟩ rfl (ct_Text_clear H (fun tx_11 H => ?_))
  refine EV_iload_n 1 d_P_ask_26 rfl rfl ?_
  refine EV_if_lt (tgt := 45) d_P_ask_27 (by decide) (fun hc => ?_) (fun hc => ?_)
  · have H := H.1 hc
    refine EV_iload_n 1 d_P_ask_45 rfl rfl ?_
    exact EV_iret d_P_ask_46 rfl (nw_int _) (hK _ _ _ _ _ _ _ _ _ _ _ H)
  · have H := H.2 hc
    refine EV_aload_n 0 d_P_ask_30 rfl rfl ?_
    refine EV_get (j := 4) d_P_ask_31 shC_0 rfl fI0 (by decide) k_323 rfl ?_
    refine EV_aload_n 0 d_P_ask_34 rfl rfl ?_
    refine EV_get (j := 3) d_P_ask_35 shC_0 rfl fI0 (by decide) k_322 rfl ?_
    refine EV_callV (as := []) (st := [vR 38]) d_P_ask_38 k_619 k_620 k_621 k_5 k_622 shC_17 rfl pd_101 ⟨by decide, by decide, Nat.le_of_ble_eq_true rfl⟩ rfl (ct_Rd_code H (fun H => ?_))
    refine EV_iload_n 1 d_P_ask_41 rfl rfl ?_
    refine EV_callV (as := [vR 13, vI r_10]) (st := []) d_P_ask_42 k_646 k_647 k_648 k_7 k_649 shC_38 rfl pd_113 ⟨by decide, by decide, Nat.le_of_ble_eq_true rfl⟩ rfl (ct_Sea_begin H (fun te_12 go_13 se_14 H => ?_))
    refine EV_iload_n 1 d_P_ask_45 rfl rfl ?_
    exact EV_iret d_P_ask_46 rfl (nw_int _) (hK _ _ _ _ _ _ _ _ _ _ _ H)
theorem ct_Cho_count {l : Launch} {o0 o1 o2 o3 o4 o5 o6 o7 ch o9 o10 : Ob} {K : Int → Prop} {K' : Option AV → List AC → Prop} (H : wp_Cho_count ch K) (hK : ∀ (r : Int), K r → K' (some (vI r)) (shC o0 o1 o2 o3 o4 o5 o6 o7 ch o9 o10)) : MT l ⟨"PrunedSearch$Choices", "count", "()I"⟩ prog_2_method_2_code 1 (some .int) 0 [vR 31] (shC o0 o1 o2 o3 o4 o5 o6 o7 ch o9 o10) K' := by
  unfold wp_Cho_count at H
  refine MT_of (lv := [(0, vR 31)]) rfl rfl (Nat.le_of_ble_eq_true rfl) rfl ?_
  refine EV_aload_n 0 d_Cho_count_0 rfl rfl ?_
  refine EV_get (j := 6) d_Cho_count_1 shC_31 rfl fI8 (by decide) k_223 rfl ?_
  exact EV_iret d_Cho_count_4 rfl (nw_int _) (hK _ H)
theorem ct_Cho_goBack {l : Launch} {o0 o1 o2 o3 o4 o5 te go ch o9 o10 : Ob} {K : Int → Ob → Ob → Prop} {K' : Option AV → List AC → Prop} (H : wp_Cho_goBack te go ch K) (hK : ∀ (r : Int) (te' go' : Ob), K r te' go' → K' (some (vI r)) (shC o0 o1 o2 o3 o4 o5 te' go' ch o9 o10)) : MT l ⟨"PrunedSearch$Choices", "goBack", "(LPrunedSearch$Goals;LPrunedSearch$Terms;)I"⟩ prog_2_method_5_code 4 (some .int) 1 [vR 31, vR 27, vR 19] (shC o0 o1 o2 o3 o4 o5 te go ch o9 o10) K' := by
  unfold wp_Cho_goBack at H
  refine MT_of (lv := [(0, vR 31), (1, vR 27), (2, vR 19)]) rfl rfl (Nat.le_of_ble_eq_true rfl) rfl ?_
  refine EV_aload_n 0 d_Cho_goBack_0 rfl rfl ?_
  refine EV_get (j := 6) d_Cho_goBack_1 shC_31 rfl fI8 (by decide) k_223 rfl ?_
  refine EV_iconst d_Cho_goBack_4 ⟨by decide, by decide⟩ ?_
  obtain ⟨hr, H⟩ := H
  refine EV_isub d_Cho_goBack_5 hr ?_
  refine EV_iconst d_Cho_goBack_6 ⟨by decide, by decide⟩ ?_
  refine EV_mmax (st := []) d_Cho_goBack_7 k_453 k_383 k_15 k_384 ⟨by decide, Nat.le_of_ble_eq_true rfl⟩ ?_
  refine EV_istore_n (lv' := [(0, vR 31), (1, vR 27), (2, vR 19), (3, vI (max ((ch.1 0) - 1) (0 : Int)))]) [1, 2, 3, 0] d_Cho_goBack_10 rfl (by decide) rfl ?_
  refine EV_aload_n 1 d_Cho_goBack_11 rfl rfl ?_
  refine EV_aload_n 0 d_Cho_goBack_12 rfl rfl ?_
  refine EV_get (j := 0) d_Cho_goBack_13 shC_31 rfl fI8 (by decide) k_217 rfl ?_
  refine EV_iload_n 3 d_Cho_goBack_16 rfl rfl ?_
  obtain ⟨hi, H⟩ := H
  refine EV_iald d_Cho_goBack_17 shC_32 hi ?_
  refine EV_aload_n 0 d_Cho_goBack_18 rfl rfl ?_
  refine EV_get (j := 1) d_Cho_goBack_19 shC_31 rfl fI8 (by decide) k_218 rfl ?_
  refine EV_iload_n 3 d_Cho_goBack_22 rfl rfl ?_
  obtain ⟨hi, H⟩ := H
  refine EV_iald d_Cho_goBack_23 shC_33 hi ?_
  refine EV_callV (as := [vI (ch.2.1 0 (max ((ch.1 0) - 1) (0 : Int))), vI (ch.2.1 1 (max ((ch.1 0) - 1) (0 : Int)))]) (st := []) d_Cho_goBack_24 k_709 k_456 k_457 k_9 k_458 shC_27 rfl pd_61 ⟨by decide, by decide, Nat.le_of_ble_eq_true rfl⟩ rfl (ct_Goa_goBack H (fun go_1 H => ?_))
  refine EV_aload_n 2 d_Cho_goBack_27 rfl rfl ?_
  refine EV_aload_n 0 d_Cho_goBack_28 rfl rfl ?_
  refine EV_get (j := 2) d_Cho_goBack_29 shC_31 rfl fI8 (by decide) k_219 rfl ?_
  refine EV_iload_n 3 d_Cho_goBack_32 rfl rfl ?_
  obtain ⟨hi, H⟩ := H
  refine EV_iald d_Cho_goBack_33 shC_34 hi ?_
  refine EV_aload_n 0 d_Cho_goBack_34 rfl rfl ?_
  refine EV_get (j := 3) d_Cho_goBack_35 shC_31 rfl fI8 (by decide) k_220 rfl ?_
  refine EV_iload_n 3 d_Cho_goBack_38 rfl rfl ?_
  obtain ⟨hi, H⟩ := H
  refine EV_iald d_Cho_goBack_39 shC_35 hi ?_
  refine EV_callV (as := [vI (ch.2.1 2 (max ((ch.1 0) - 1) (0 : Int))), vI (ch.2.1 3 (max ((ch.1 0) - 1) (0 : Int)))]) (st := []) d_Cho_goBack_40 k_710 k_460 k_461 k_8 k_462 shC_19 rfl pd_60 ⟨by decide, by decide, Nat.le_of_ble_eq_true rfl⟩ rfl (ct_Ter_goBack H (fun te_2 H => ?_))
  refine EV_aload_n 0 d_Cho_goBack_43 rfl rfl ?_
  refine EV_get (j := 4) d_Cho_goBack_44 shC_31 rfl fI8 (by decide) k_221 rfl ?_
  refine EV_iload_n 3 d_Cho_goBack_47 rfl rfl ?_
  obtain ⟨hi, H⟩ := H
  refine EV_iald d_Cho_goBack_48 shC_36 hi ?_
  exact EV_iret d_Cho_goBack_49 rfl (nw_int _) (hK _ _ _ H)
theorem ct_Goa_first {l : Launch} {o0 o1 o2 o3 o4 o5 o6 go o8 o9 o10 : Ob} {K : Int → Prop} {K' : Option AV → List AC → Prop} (H : wp_Goa_first go K) (hK : ∀ (r : Int), K r → K' (some (vI r)) (shC o0 o1 o2 o3 o4 o5 o6 go o8 o9 o10)) : MT l ⟨"PrunedSearch$Goals", "first", "()I"⟩ prog_5_method_2_code 1 (some .int) 0 [vR 27] (shC o0 o1 o2 o3 o4 o5 o6 go o8 o9 o10) K' := by
  unfold wp_Goa_first at H
  refine MT_of (lv := [(0, vR 27)]) rfl rfl (Nat.le_of_ble_eq_true rfl) rfl ?_
  refine EV_aload_n 0 d_Goa_first_0 rfl rfl ?_
  refine EV_get (j := 4) d_Goa_first_1 shC_27 rfl fI7 (by decide) k_199 rfl ?_
  exact EV_iret d_Goa_first_4 rfl (nw_int _) (hK _ H)
theorem ct_Goa_termOf {l : Launch} {o0 o1 o2 o3 o4 o5 o6 go o8 o9 o10 : Ob} {x1 : Int} {K : Int → Prop} {K' : Option AV → List AC → Prop} (H : wp_Goa_termOf x1 go K) (hK : ∀ (r : Int), K r → K' (some (vI r)) (shC o0 o1 o2 o3 o4 o5 o6 go o8 o9 o10)) : MT l ⟨"PrunedSearch$Goals", "termOf", "(I)I"⟩ prog_5_method_7_code 2 (some .int) 0 [vR 27, vI x1] (shC o0 o1 o2 o3 o4 o5 o6 go o8 o9 o10) K' := by
  unfold wp_Goa_termOf at H
  refine MT_of (lv := [(0, vR 27), (1, vI x1)]) rfl rfl (Nat.le_of_ble_eq_true rfl) rfl ?_
  refine EV_iload_n 1 d_Goa_termOf_0 rfl rfl ?_
  refine EV_if_lt (tgt := 21) d_Goa_termOf_1 (by decide) (fun hc => ?_) (fun hc => ?_)
  · have H := H.1 hc
    refine EV_iconst d_Goa_termOf_21 ⟨by decide, by decide⟩ ?_
    exact EV_iret d_Goa_termOf_22 rfl (nw_int _) (hK _ H)
  · have H := H.2 hc
    refine EV_iload_n 1 d_Goa_termOf_4 rfl rfl ?_
    refine EV_aload_n 0 d_Goa_termOf_5 rfl rfl ?_
    refine EV_get (j := 3) d_Goa_termOf_6 shC_27 rfl fI7 (by decide) k_198 rfl ?_
    refine EV_icmp_ge (tgt := 21) d_Goa_termOf_9 (by decide) (fun hc => ?_) (fun hc => ?_)
    · have H := H.1 hc
      refine EV_iconst d_Goa_termOf_21 ⟨by decide, by decide⟩ ?_
      exact EV_iret d_Goa_termOf_22 rfl (nw_int _) (hK _ H)
    · have H := H.2 hc
      refine EV_aload_n 0 d_Goa_termOf_12 rfl rfl ?_
      refine EV_get (j := 0) d_Goa_termOf_13 shC_27 rfl fI7 (by decide) k_195 rfl ?_
      refine EV_iload_n 1 d_Goa_termOf_16 rfl rfl ?_
      obtain ⟨hi, H⟩ := H
      refine EV_iald d_Goa_termOf_17 shC_28 hi ?_
      refine EV_goto (tgt := 22) d_Goa_termOf_18 (by decide) ?_
      exact EV_iret d_Goa_termOf_22 rfl (nw_int _) (hK _ H)
theorem ct_Goa_after {l : Launch} {o0 o1 o2 o3 o4 o5 o6 go o8 o9 o10 : Ob} {x1 : Int} {K : Int → Prop} {K' : Option AV → List AC → Prop} (H : wp_Goa_after x1 go K) (hK : ∀ (r : Int), K r → K' (some (vI r)) (shC o0 o1 o2 o3 o4 o5 o6 go o8 o9 o10)) : MT l ⟨"PrunedSearch$Goals", "after", "(I)I"⟩ prog_5_method_9_code 2 (some .int) 0 [vR 27, vI x1] (shC o0 o1 o2 o3 o4 o5 o6 go o8 o9 o10) K' := by
  unfold wp_Goa_after at H
  refine MT_of (lv := [(0, vR 27), (1, vI x1)]) rfl rfl (Nat.le_of_ble_eq_true rfl) rfl ?_
  refine EV_iload_n 1 d_Goa_after_0 rfl rfl ?_
  refine EV_if_lt (tgt := 21) d_Goa_after_1 (by decide) (fun hc => ?_) (fun hc => ?_)
  · have H := H.1 hc
    refine EV_iconst d_Goa_after_21 ⟨by decide, by decide⟩ ?_
    exact EV_iret d_Goa_after_22 rfl (nw_int _) (hK _ H)
  · have H := H.2 hc
    refine EV_iload_n 1 d_Goa_after_4 rfl rfl ?_
    refine EV_aload_n 0 d_Goa_after_5 rfl rfl ?_
    refine EV_get (j := 3) d_Goa_after_6 shC_27 rfl fI7 (by decide) k_198 rfl ?_
    refine EV_icmp_ge (tgt := 21) d_Goa_after_9 (by decide) (fun hc => ?_) (fun hc => ?_)
    · have H := H.1 hc
      refine EV_iconst d_Goa_after_21 ⟨by decide, by decide⟩ ?_
      exact EV_iret d_Goa_after_22 rfl (nw_int _) (hK _ H)
    · have H := H.2 hc
      refine EV_aload_n 0 d_Goa_after_12 rfl rfl ?_
      refine EV_get (j := 2) d_Goa_after_13 shC_27 rfl fI7 (by decide) k_197 rfl ?_
      refine EV_iload_n 1 d_Goa_after_16 rfl rfl ?_
      obtain ⟨hi, H⟩ := H
      refine EV_iald d_Goa_after_17 shC_30 hi ?_
      refine EV_goto (tgt := 22) d_Goa_after_18 (by decide) ?_
      exact EV_iret d_Goa_after_22 rfl (nw_int _) (hK _ H)
theorem ct_Goa_takeFirst {l : Launch} {o0 o1 o2 o3 o4 o5 o6 go o8 o9 o10 : Ob} {K : Ob → Prop} {K' : Option AV → List AC → Prop} (H : wp_Goa_takeFirst go K) (hK : ∀ (go' : Ob), K go' → K' none (shC o0 o1 o2 o3 o4 o5 o6 go' o8 o9 o10)) : MT l ⟨"PrunedSearch$Goals", "takeFirst", "()V"⟩ prog_5_method_5_code 1 none 1 [vR 27] (shC o0 o1 o2 o3 o4 o5 o6 go o8 o9 o10) K' := by
  unfold wp_Goa_takeFirst at H
  refine MT_of (lv := [(0, vR 27)]) rfl rfl (Nat.le_of_ble_eq_true rfl) rfl ?_
  refine EV_aload_n 0 d_Goa_takeFirst_0 rfl rfl ?_
  refine EV_aload_n 0 d_Goa_takeFirst_1 rfl rfl ?_
  refine EV_aload_n 0 d_Goa_takeFirst_2 rfl rfl ?_
  refine EV_get (j := 4) d_Goa_takeFirst_3 shC_27 rfl fI7 (by decide) k_199 rfl ?_
  refine EV_callV (as := [vI (go.1 1)]) (st := [vR 27]) d_Goa_takeFirst_6 k_723 k_724 k_725 k_9 k_726 shC_27 rfl pd_115 ⟨by decide, by decide, Nat.le_of_ble_eq_true rfl⟩ rfl (ct_Goa_after H (fun r_1 H => ?_))
  refine EV_put (j := 4) d_Goa_takeFirst_9 shC_27 rfl fI7 fO7 fN7 (by decide) k_199 rfl rfl (fun ad => nf_int ad _) (Nat.le_of_ble_eq_true rfl) shC_27_4 ?_
  exact EV_vret d_Goa_takeFirst_12 rfl (hK _ H)
theorem ct_Cho_firstOf_2 {l : Launch} {o0 o1 o2 o3 o4 o5 o6 o7 o8 o9 o10 : Ob} {K : Int → Prop} {K' : Option AV → List AC → Prop} (hK : ∀ (r : Int), K r → K' (some (vI r)) (shC o0 o1 o2 o3 o4 o5 o6 o7 o8 o9 o10)) : ∀ (n : Nat) (x0 : Int) (x1 : Int), Cho_firstOf_2 n x0 x1 K → EV l prog_2_method_7_code "PrunedSearch$Choices" 2 (some .int) 0 2 [(0, vI x0), (1, vI x1)] [] (shC o0 o1 o2 o3 o4 o5 o6 o7 o8 o9 o10) K' := by
  intro n
  induction n with
  | zero =>
    intro x0 x1 H
    exact H.elim
  | succ n ih =>
    intro x0 x1 H
    refine EV_iload_n 1 d_Cho_firstOf_2 rfl rfl ?_
    refine EV_bipush d_Cho_firstOf_3 (by decide +kernel) ⟨by decide, by decide⟩ ?_
    refine EV_icmp_ge (tgt := 22) d_Cho_firstOf_5 (by decide) (fun hc => ?_) (fun hc => ?_)
    · have H := H.1 hc
      refine EV_iload_n 1 d_Cho_firstOf_22 rfl rfl ?_
      exact EV_iret d_Cho_firstOf_23 rfl (nw_int _) (hK _ H)
    · have H := H.2 hc
      refine EV_iload_n 0 d_Cho_firstOf_8 rfl rfl ?_
      refine EV_iload_n 1 d_Cho_firstOf_9 rfl rfl ?_
      obtain ⟨h0, h1, H⟩ := H
      refine EV_ishr d_Cho_firstOf_10 h0 h1 ?_
      refine EV_iconst d_Cho_firstOf_11 ⟨by decide, by decide⟩ ?_
      obtain ⟨h0, h1, H⟩ := H
      refine EV_iand d_Cho_firstOf_12 h0 h1 ?_
      refine EV_if_ne (tgt := 22) d_Cho_firstOf_13 (by decide) (fun hc => ?_) (fun hc => ?_)
      · have H := H.1 hc
        refine EV_iload_n 1 d_Cho_firstOf_22 rfl rfl ?_
        exact EV_iret d_Cho_firstOf_23 rfl (nw_int _) (hK _ H)
      · have H := H.2 hc
        obtain ⟨hr, H⟩ := H
        refine EV_iinc (lv' := [(0, vI x0), (1, vI (x1 + 1))]) 1 [1, 0] d_Cho_firstOf_16 rfl (by decide) hr rfl ?_
        refine EV_goto (tgt := 2) d_Cho_firstOf_19 (by decide) ?_
        exact ih x0 (x1 + 1) H
theorem ct_Cho_firstOf {l : Launch} {o0 o1 o2 o3 o4 o5 o6 o7 o8 o9 o10 : Ob} {x0 : Int} {K : Int → Prop} {K' : Option AV → List AC → Prop} (H : wp_Cho_firstOf x0 K) (hK : ∀ (r : Int), K r → K' (some (vI r)) (shC o0 o1 o2 o3 o4 o5 o6 o7 o8 o9 o10)) : MT l ⟨"PrunedSearch$Choices", "firstOf", "(I)I"⟩ prog_2_method_7_code 2 (some .int) 0 [vI x0] (shC o0 o1 o2 o3 o4 o5 o6 o7 o8 o9 o10) K' := by
  unfold wp_Cho_firstOf at H
  refine MT_of (lv := [(0, vI x0)]) rfl rfl (Nat.le_of_ble_eq_true rfl) rfl ?_
  refine EV_iconst d_Cho_firstOf_0 ⟨by decide, by decide⟩ ?_
  refine EV_istore_n (lv' := [(0, vI x0), (1, vI 0)]) [1, 0] d_Cho_firstOf_1 rfl (by decide) rfl ?_
  obtain ⟨n, H⟩ := H
  exact ct_Cho_firstOf_2 hK n x0 0 H
theorem ct_Cho_withoutFirst {l : Launch} {o0 o1 o2 o3 o4 o5 o6 o7 o8 o9 o10 : Ob} {x0 : Int} {K : Int → Prop} {K' : Option AV → List AC → Prop} (H : wp_Cho_withoutFirst x0 K) (hK : ∀ (r : Int), K r → K' (some (vI r)) (shC o0 o1 o2 o3 o4 o5 o6 o7 o8 o9 o10)) : MT l ⟨"PrunedSearch$Choices", "withoutFirst", "(I)I"⟩ prog_2_method_8_code 1 (some .int) 0 [vI x0] (shC o0 o1 o2 o3 o4 o5 o6 o7 o8 o9 o10) K' := by
  unfold wp_Cho_withoutFirst at H
  refine MT_of (lv := [(0, vI x0)]) rfl rfl (Nat.le_of_ble_eq_true rfl) rfl ?_
  refine EV_iload_n 0 d_Cho_withoutFirst_0 rfl rfl ?_
  refine EV_iload_n 0 d_Cho_withoutFirst_1 rfl rfl ?_
  refine EV_iconst d_Cho_withoutFirst_2 ⟨by decide, by decide⟩ ?_
  obtain ⟨hr, H⟩ := H
  refine EV_isub d_Cho_withoutFirst_3 hr ?_
  obtain ⟨h0, h1, H⟩ := H
  refine EV_iand d_Cho_withoutFirst_4 h0 h1 ?_
  exact EV_iret d_Cho_withoutFirst_5 rfl (nw_int _) (hK _ H)
theorem ct_Cho_takeCandidate {l : Launch} {o0 o1 o2 o3 o4 o5 o6 o7 ch o9 o10 : Ob} {K : Int → Ob → Prop} {K' : Option AV → List AC → Prop} (H : wp_Cho_takeCandidate ch K) (hK : ∀ (r : Int) (ch' : Ob), K r ch' → K' (some (vI r)) (shC o0 o1 o2 o3 o4 o5 o6 o7 ch' o9 o10)) : MT l ⟨"PrunedSearch$Choices", "takeCandidate", "()I"⟩ prog_2_method_6_code 3 (some .int) 1 [vR 31] (shC o0 o1 o2 o3 o4 o5 o6 o7 ch o9 o10) K' := by
  unfold wp_Cho_takeCandidate at H
  refine MT_of (lv := [(0, vR 31)]) rfl rfl (Nat.le_of_ble_eq_true rfl) rfl ?_
  refine EV_aload_n 0 d_Cho_takeCandidate_0 rfl rfl ?_
  refine EV_get (j := 6) d_Cho_takeCandidate_1 shC_31 rfl fI8 (by decide) k_223 rfl ?_
  refine EV_iconst d_Cho_takeCandidate_4 ⟨by decide, by decide⟩ ?_
  obtain ⟨hr, H⟩ := H
  refine EV_isub d_Cho_takeCandidate_5 hr ?_
  refine EV_iconst d_Cho_takeCandidate_6 ⟨by decide, by decide⟩ ?_
  refine EV_mmax (st := []) d_Cho_takeCandidate_7 k_453 k_383 k_15 k_384 ⟨by decide, Nat.le_of_ble_eq_true rfl⟩ ?_
  refine EV_istore_n (lv' := [(0, vR 31), (1, vI (max ((ch.1 0) - 1) (0 : Int)))]) [1, 0] d_Cho_takeCandidate_10 rfl (by decide) rfl ?_
  refine EV_aload_n 0 d_Cho_takeCandidate_11 rfl rfl ?_
  refine EV_get (j := 5) d_Cho_takeCandidate_12 shC_31 rfl fI8 (by decide) k_222 rfl ?_
  refine EV_iload_n 1 d_Cho_takeCandidate_15 rfl rfl ?_
  obtain ⟨hi, H⟩ := H
  refine EV_iald d_Cho_takeCandidate_16 shC_37 hi ?_
  refine EV_callT (as := [vI (ch.2.1 5 (max ((ch.1 0) - 1) (0 : Int)))]) (st := []) d_Cho_takeCandidate_17 k_731 k_732 k_10 k_733 pd_117 ⟨by decide, by decide, Nat.le_of_ble_eq_true rfl⟩ rfl (ct_Cho_firstOf H (fun r_1 H => ?_))
  refine EV_istore_n (lv' := [(0, vR 31), (1, vI (max ((ch.1 0) - 1) (0 : Int))), (2, vI r_1)]) [1, 2, 0] d_Cho_takeCandidate_20 rfl (by decide) rfl ?_
  refine EV_aload_n 0 d_Cho_takeCandidate_21 rfl rfl ?_
  refine EV_get (j := 5) d_Cho_takeCandidate_22 shC_31 rfl fI8 (by decide) k_222 rfl ?_
  refine EV_iload_n 1 d_Cho_takeCandidate_25 rfl rfl ?_
  refine EV_aload_n 0 d_Cho_takeCandidate_26 rfl rfl ?_
  refine EV_get (j := 5) d_Cho_takeCandidate_27 shC_31 rfl fI8 (by decide) k_222 rfl ?_
  refine EV_iload_n 1 d_Cho_takeCandidate_30 rfl rfl ?_
  obtain ⟨hi, H⟩ := H
  refine EV_iald d_Cho_takeCandidate_31 shC_37 hi ?_
  refine EV_callT (as := [vI (ch.2.1 5 (max ((ch.1 0) - 1) (0 : Int)))]) (st := [vI (max ((ch.1 0) - 1) (0 : Int)), vR 37]) d_Cho_takeCandidate_32 k_734 k_735 k_10 k_736 pd_116 ⟨by decide, by decide, Nat.le_of_ble_eq_true rfl⟩ rfl (ct_Cho_withoutFirst H (fun r_2 H => ?_))
  obtain ⟨hi, H⟩ := H
  refine EV_iast d_Cho_takeCandidate_35 shC_37 hi shC_37_s ?_
  refine EV_aload_n 0 d_Cho_takeCandidate_36 rfl rfl ?_
  refine EV_get (j := 5) d_Cho_takeCandidate_37 shC_31 rfl fI8 (by decide) k_222 rfl ?_
  refine EV_iload_n 1 d_Cho_takeCandidate_40 rfl rfl ?_
  obtain ⟨hi, H⟩ := H
  refine EV_iald d_Cho_takeCandidate_41 shC_37 hi ?_
  refine EV_if_ne (tgt := 50) d_Cho_takeCandidate_42 (by decide) (fun hc => ?_) (fun hc => ?_)
  · have H := H.1 hc
    refine EV_iload_n 2 d_Cho_takeCandidate_50 rfl rfl ?_
    exact EV_iret d_Cho_takeCandidate_51 rfl (nw_int _) (hK _ _ H)
  · have H := H.2 hc
    refine EV_aload_n 0 d_Cho_takeCandidate_45 rfl rfl ?_
    refine EV_iload_n 1 d_Cho_takeCandidate_46 rfl rfl ?_
    refine EV_put (j := 6) d_Cho_takeCandidate_47 shC_31 rfl fI8 fO8 fN8 (by decide) k_223 rfl rfl (fun ad => nf_int ad _) (Nat.le_of_ble_eq_true rfl) shC_31_6 ?_
    refine EV_iload_n 2 d_Cho_takeCandidate_50 rfl rfl ?_
    exact EV_iret d_Cho_takeCandidate_51 rfl (nw_int _) (hK _ _ H)
theorem ct_Sea_takeChoice {l : Launch} {o0 o1 o2 o3 o4 o5 te go ch se o10 : Ob} {K : Int → Ob → Ob → Ob → Ob → Prop} {K' : Option AV → List AC → Prop} (H : wp_Sea_takeChoice te go ch se K) (hK : ∀ (r : Int) (te' go' ch' se' : Ob), K r te' go' ch' se' → K' (some (vI r)) (shC o0 o1 o2 o3 o4 o5 te' go' ch' se' o10)) : MT l ⟨"PrunedSearch$Search", "takeChoice", "()I"⟩ prog_7_method_6_code 1 (some .int) 2 [vR 38] (shC o0 o1 o2 o3 o4 o5 te go ch se o10) K' := by
  unfold wp_Sea_takeChoice at H
  refine MT_of (lv := [(0, vR 38)]) rfl rfl (Nat.le_of_ble_eq_true rfl) rfl ?_
  refine EV_aload_n 0 d_Sea_takeChoice_0 rfl rfl ?_
  refine EV_iconst d_Sea_takeChoice_1 ⟨by decide, by decide⟩ ?_
  refine EV_put (j := 9) d_Sea_takeChoice_2 shC_38 rfl fI9 fO9 fN9 (by decide) k_285 rfl rfl (fun ad => nf_bool ad (by decide)) (Nat.le_of_ble_eq_true rfl) shC_38_9 ?_
  refine EV_aload_n 0 d_Sea_takeChoice_5 rfl rfl ?_
  refine EV_aload_n 0 d_Sea_takeChoice_6 rfl rfl ?_
  refine EV_get (j := 4) d_Sea_takeChoice_7 shC_38 rfl fI9 (by decide) k_280 rfl ?_
  refine EV_aload_n 0 d_Sea_takeChoice_10 rfl rfl ?_
  refine EV_get (j := 3) d_Sea_takeChoice_11 shC_38 rfl fI9 (by decide) k_279 rfl ?_
  refine EV_aload_n 0 d_Sea_takeChoice_14 rfl rfl ?_
  refine EV_get (j := 2) d_Sea_takeChoice_15 shC_38 rfl fI9 (by decide) k_278 rfl ?_
  refine EV_callV (as := [vR 27, vR 19]) (st := [vR 38]) d_Sea_takeChoice_18 k_705 k_706 k_707 k_10 k_708 shC_31 rfl pd_123 ⟨by decide, by decide, Nat.le_of_ble_eq_true rfl⟩ rfl (ct_Cho_goBack H (fun r_3 te_1 go_2 H => ?_))
  refine EV_put (j := 10) d_Sea_takeChoice_21 shC_38 rfl fI9 fO9 fN9 (by decide) k_286 rfl rfl (fun ad => nf_int ad _) (Nat.le_of_ble_eq_true rfl) shC_38_10 ?_
  refine EV_aload_n 0 d_Sea_takeChoice_24 rfl rfl ?_
  refine EV_aload_n 0 d_Sea_takeChoice_25 rfl rfl ?_
  refine EV_get (j := 3) d_Sea_takeChoice_26 shC_38 rfl fI9 (by decide) k_279 rfl ?_
  refine EV_aload_n 0 d_Sea_takeChoice_29 rfl rfl ?_
  refine EV_get (j := 3) d_Sea_takeChoice_30 shC_38 rfl fI9 (by decide) k_279 rfl ?_
  refine EV_callV (as := []) (st := [vR 27, vR 38]) d_Sea_takeChoice_33 k_711 k_712 k_713 k_9 k_714 shC_27 rfl pd_122 ⟨by decide, by decide, Nat.le_of_ble_eq_true rfl⟩ rfl (ct_Goa_first H (fun r_4 H => ?_))
  refine EV_callV (as := [vI r_4]) (st := [vR 38]) d_Sea_takeChoice_36 k_715 k_716 k_717 k_9 k_718 shC_27 rfl pd_121 ⟨by decide, by decide, Nat.le_of_ble_eq_true rfl⟩ rfl (ct_Goa_termOf H (fun r_5 H => ?_))
  refine EV_put (j := 12) d_Sea_takeChoice_39 shC_38 rfl fI9 fO9 fN9 (by decide) k_288 rfl rfl (fun ad => nf_int ad _) (Nat.le_of_ble_eq_true rfl) shC_38_12 ?_
  refine EV_aload_n 0 d_Sea_takeChoice_42 rfl rfl ?_
  refine EV_get (j := 3) d_Sea_takeChoice_43 shC_38 rfl fI9 (by decide) k_279 rfl ?_
  refine EV_callV (as := []) (st := []) d_Sea_takeChoice_46 k_719 k_720 k_721 k_9 k_722 shC_27 rfl pd_120 ⟨by decide, by decide, Nat.le_of_ble_eq_true rfl⟩ rfl (ct_Goa_takeFirst H (fun go_6 H => ?_))
  refine EV_aload_n 0 d_Sea_takeChoice_49 rfl rfl ?_
  refine EV_aload_n 0 d_Sea_takeChoice_50 rfl rfl ?_
  refine EV_get (j := 4) d_Sea_takeChoice_51 shC_38 rfl fI9 (by decide) k_280 rfl ?_
  refine EV_callV (as := []) (st := [vR 38]) d_Sea_takeChoice_54 k_693 k_694 k_695 k_10 k_696 shC_31 rfl pd_119 ⟨by decide, by decide, Nat.le_of_ble_eq_true rfl⟩ rfl (ct_Cho_count H (fun r_7 H => ?_))
  refine EV_iconst d_Sea_takeChoice_57 ⟨by decide, by decide⟩ ?_
  obtain ⟨hr, H⟩ := H
  refine EV_isub d_Sea_takeChoice_58 hr ?_
  refine EV_put (j := 13) d_Sea_takeChoice_59 shC_38 rfl fI9 fO9 fN9 (by decide) k_289 rfl rfl (fun ad => nf_int ad _) (Nat.le_of_ble_eq_true rfl) shC_38_13 ?_
  refine EV_aload_n 0 d_Sea_takeChoice_62 rfl rfl ?_
  refine EV_get (j := 4) d_Sea_takeChoice_63 shC_38 rfl fI9 (by decide) k_280 rfl ?_
  refine EV_callV (as := []) (st := []) d_Sea_takeChoice_66 k_727 k_728 k_729 k_10 k_730 shC_31 rfl pd_118 ⟨by decide, by decide, Nat.le_of_ble_eq_true rfl⟩ rfl (ct_Cho_takeCandidate H (fun r_9 ch_8 H => ?_))
  exact EV_iret d_Sea_takeChoice_69 rfl (nw_int _) (hK _ _ _ _ _ H)
theorem ct_Cod_endOf_p {l : Launch} {o0 o1 o2 pr o4 o5 o6 o7 o8 o9 o10 : Ob} {x1 : Int} {K : Int → Prop} {K' : Option AV → List AC → Prop} (H : wp_Cod_endOf_p x1 pr K) (hK : ∀ (r : Int), K r → K' (some (vI r)) (shC o0 o1 o2 pr o4 o5 o6 o7 o8 o9 o10)) : MT l ⟨"PrunedSearch$Code", "endOf", "(I)I"⟩ prog_4_method_10_code 2 (some .int) 0 [vR 9, vI x1] (shC o0 o1 o2 pr o4 o5 o6 o7 o8 o9 o10) K' := by
  unfold wp_Cod_endOf_p at H
  refine MT_of (lv := [(0, vR 9), (1, vI x1)]) rfl rfl (Nat.le_of_ble_eq_true rfl) rfl ?_
  refine EV_iload_n 1 d_Cod_endOf_r_0 rfl rfl ?_
  refine EV_if_lt (tgt := 13) d_Cod_endOf_r_1 (by decide) (fun hc => ?_) (fun hc => ?_)
  · have H := H.1 hc
    refine EV_iconst d_Cod_endOf_r_13 ⟨by decide, by decide⟩ ?_
    refine EV_goto (tgt := 23) d_Cod_endOf_r_14 (by decide) ?_
    exact EV_iret d_Cod_endOf_r_23 rfl (nw_int _) (hK _ H)
  · have H := H.2 hc
    refine EV_iload_n 1 d_Cod_endOf_r_4 rfl rfl ?_
    refine EV_aload_n 0 d_Cod_endOf_r_5 rfl rfl ?_
    refine EV_get (j := 2) d_Cod_endOf_r_6 shC_9 rfl fI4 (by decide) k_70 rfl ?_
    refine EV_alen (t := 0) (by decide) d_Cod_endOf_r_9 shC_12 (by decide) ?_
    refine EV_icmp_lt (tgt := 17) d_Cod_endOf_r_10 (by decide) (fun hc => ?_) (fun hc => ?_)
    · have H := H.1 hc
      refine EV_aload_n 0 d_Cod_endOf_r_17 rfl rfl ?_
      refine EV_get (j := 2) d_Cod_endOf_r_18 shC_9 rfl fI4 (by decide) k_70 rfl ?_
      refine EV_iload_n 1 d_Cod_endOf_r_21 rfl rfl ?_
      obtain ⟨hi, H⟩ := H
      refine EV_iald d_Cod_endOf_r_22 shC_12 hi ?_
      exact EV_iret d_Cod_endOf_r_23 rfl (nw_int _) (hK _ H)
    · have H := H.2 hc
      refine EV_iconst d_Cod_endOf_r_13 ⟨by decide, by decide⟩ ?_
      refine EV_goto (tgt := 23) d_Cod_endOf_r_14 (by decide) ?_
      exact EV_iret d_Cod_endOf_r_23 rfl (nw_int _) (hK _ H)
theorem ct_Cod_symbolAt_p {l : Launch} {o0 o1 o2 pr o4 o5 o6 o7 o8 o9 o10 : Ob} {x1 : Int} {K : Int → Prop} {K' : Option AV → List AC → Prop} (H : wp_Cod_symbolAt_p x1 pr K) (hK : ∀ (r : Int), K r → K' (some (vI r)) (shC o0 o1 o2 pr o4 o5 o6 o7 o8 o9 o10)) : MT l ⟨"PrunedSearch$Code", "symbolAt", "(I)I"⟩ prog_4_method_11_code 2 (some .int) 0 [vR 9, vI x1] (shC o0 o1 o2 pr o4 o5 o6 o7 o8 o9 o10) K' := by
  unfold wp_Cod_symbolAt_p at H
  refine MT_of (lv := [(0, vR 9), (1, vI x1)]) rfl rfl (Nat.le_of_ble_eq_true rfl) rfl ?_
  refine EV_iload_n 1 d_Cod_symbolAt_r_0 rfl rfl ?_
  refine EV_if_lt (tgt := 21) d_Cod_symbolAt_r_1 (by decide) (fun hc => ?_) (fun hc => ?_)
  · have H := H.1 hc
    refine EV_iconst d_Cod_symbolAt_r_21 ⟨by decide, by decide⟩ ?_
    exact EV_iret d_Cod_symbolAt_r_22 rfl (nw_int _) (hK _ H)
  · have H := H.2 hc
    refine EV_iload_n 1 d_Cod_symbolAt_r_4 rfl rfl ?_
    refine EV_aload_n 0 d_Cod_symbolAt_r_5 rfl rfl ?_
    refine EV_get (j := 3) d_Cod_symbolAt_r_6 shC_9 rfl fI4 (by decide) k_71 rfl ?_
    refine EV_icmp_ge (tgt := 21) d_Cod_symbolAt_r_9 (by decide) (fun hc => ?_) (fun hc => ?_)
    · have H := H.1 hc
      refine EV_iconst d_Cod_symbolAt_r_21 ⟨by decide, by decide⟩ ?_
      exact EV_iret d_Cod_symbolAt_r_22 rfl (nw_int _) (hK _ H)
    · have H := H.2 hc
      refine EV_aload_n 0 d_Cod_symbolAt_r_12 rfl rfl ?_
      refine EV_get (j := 0) d_Cod_symbolAt_r_13 shC_9 rfl fI4 (by decide) k_68 rfl ?_
      refine EV_iload_n 1 d_Cod_symbolAt_r_16 rfl rfl ?_
      obtain ⟨hi, H⟩ := H
      refine EV_iald d_Cod_symbolAt_r_17 shC_10 hi ?_
      refine EV_goto (tgt := 22) d_Cod_symbolAt_r_18 (by decide) ?_
      exact EV_iret d_Cod_symbolAt_r_22 rfl (nw_int _) (hK _ H)
theorem ct_Cod_sizeAt_p {l : Launch} {o0 o1 o2 pr o4 o5 o6 o7 o8 o9 o10 : Ob} {x1 : Int} {K : Int → Prop} {K' : Option AV → List AC → Prop} (H : wp_Cod_sizeAt_p x1 pr K) (hK : ∀ (r : Int), K r → K' (some (vI r)) (shC o0 o1 o2 pr o4 o5 o6 o7 o8 o9 o10)) : MT l ⟨"PrunedSearch$Code", "sizeAt", "(I)I"⟩ prog_4_method_12_code 2 (some .int) 0 [vR 9, vI x1] (shC o0 o1 o2 pr o4 o5 o6 o7 o8 o9 o10) K' := by
  unfold wp_Cod_sizeAt_p at H
  refine MT_of (lv := [(0, vR 9), (1, vI x1)]) rfl rfl (Nat.le_of_ble_eq_true rfl) rfl ?_
  refine EV_iload_n 1 d_Cod_sizeAt_r_0 rfl rfl ?_
  refine EV_if_lt (tgt := 21) d_Cod_sizeAt_r_1 (by decide) (fun hc => ?_) (fun hc => ?_)
  · have H := H.1 hc
    refine EV_iconst d_Cod_sizeAt_r_21 ⟨by decide, by decide⟩ ?_
    exact EV_iret d_Cod_sizeAt_r_22 rfl (nw_int _) (hK _ H)
  · have H := H.2 hc
    refine EV_iload_n 1 d_Cod_sizeAt_r_4 rfl rfl ?_
    refine EV_aload_n 0 d_Cod_sizeAt_r_5 rfl rfl ?_
    refine EV_get (j := 3) d_Cod_sizeAt_r_6 shC_9 rfl fI4 (by decide) k_71 rfl ?_
    refine EV_icmp_ge (tgt := 21) d_Cod_sizeAt_r_9 (by decide) (fun hc => ?_) (fun hc => ?_)
    · have H := H.1 hc
      refine EV_iconst d_Cod_sizeAt_r_21 ⟨by decide, by decide⟩ ?_
      exact EV_iret d_Cod_sizeAt_r_22 rfl (nw_int _) (hK _ H)
    · have H := H.2 hc
      refine EV_aload_n 0 d_Cod_sizeAt_r_12 rfl rfl ?_
      refine EV_get (j := 1) d_Cod_sizeAt_r_13 shC_9 rfl fI4 (by decide) k_69 rfl ?_
      refine EV_iload_n 1 d_Cod_sizeAt_r_16 rfl rfl ?_
      obtain ⟨hi, H⟩ := H
      refine EV_iald d_Cod_sizeAt_r_17 shC_11 hi ?_
      refine EV_goto (tgt := 22) d_Cod_sizeAt_r_18 (by decide) ?_
      exact EV_iret d_Cod_sizeAt_r_22 rfl (nw_int _) (hK _ H)
theorem ct_Ter_copy_p_115 {l : Launch} {o0 o1 o2 pr o4 o5 o7 o8 o9 o10 : Ob} {K : Int → Ob → Prop} {K' : Option AV → List AC → Prop} {L27 : Int → Int → Int → Ob → Prop} {x3 : Int} {x4 : Int} {x5 : Int} {s0 : Int} {s1 : Int} {te : Ob} (hL27 : ∀ (x3 : Int) (x4 : Int) (x5 : Int) (te : Ob), L27 x3 x4 x5 te → EV l prog_9_method_5_code "PrunedSearch$Terms" 7 (some .int) 1 27 [(0, vR 19), (1, vR 9), (3, vI x3), (4, vI x4), (5, vI x5)] [] (shC o0 o1 o2 pr o4 o5 te o7 o8 o9 o10) K') (H : Ter_copy_p_115 L27 x3 x4 x5 s0 s1 pr te K) (hK : ∀ (r : Int) (te' : Ob), K r te' → K' (some (vI r)) (shC o0 o1 o2 pr o4 o5 te' o7 o8 o9 o10)) : EV l prog_9_method_5_code "PrunedSearch$Terms" 7 (some .int) 1 115 [(0, vR 19), (1, vR 9), (3, vI x3), (4, vI x4), (5, vI x5)] [vI s0, vI s1, vR 22] (shC o0 o1 o2 pr o4 o5 te o7 o8 o9 o10) K' := by
  obtain ⟨hi, H⟩ := H
  refine EV_iast d_Ter_copy_r_115 shC_22 hi shC_22_s ?_
  refine EV_aload_n 0 d_Ter_copy_r_116 rfl rfl ?_
  refine EV_dup d_Ter_copy_r_117 rfl ?_
  refine EV_get (j := 7) d_Ter_copy_r_118 shC_19 rfl fI6 (by decide) k_162 rfl ?_
  refine EV_iconst d_Ter_copy_r_121 ⟨by decide, by decide⟩ ?_
  obtain ⟨hr, H⟩ := H
  refine EV_iadd d_Ter_copy_r_122 hr ?_
  refine EV_put (j := 7) d_Ter_copy_r_123 shC_19 rfl fI6 fO6 fN6 (by decide) k_162 rfl rfl (fun ad => nf_int ad _) (Nat.le_of_ble_eq_true rfl) shC_19_7 ?_
  obtain ⟨hr, H⟩ := H
  refine EV_iinc (lv' := [(0, vR 19), (1, vR 9), (3, vI x3), (4, vI x4), (5, vI (x5 + 1))]) 4 [1, 2, 3, 4, 0] d_Ter_copy_r_126 rfl (by decide) hr rfl ?_
  refine EV_goto (tgt := 27) d_Ter_copy_r_129 (by decide) ?_
  exact hL27 x3 x4 (x5 + 1) (sI (sA te 2 s1 s0) 0 ((te.1 0) + 1)) H
theorem ct_Ter_copy_p_71 {l : Launch} {o0 o1 o2 pr o4 o5 o7 o8 o9 o10 : Ob} {K : Int → Ob → Prop} {K' : Option AV → List AC → Prop} {L27 : Int → Int → Int → Ob → Prop} {x3 : Int} {x4 : Int} {x5 : Int} {x6 : Int} {s0 : Int} {s1 : Int} {te : Ob} (hL27 : ∀ (x3 : Int) (x4 : Int) (x5 : Int) (te : Ob), L27 x3 x4 x5 te → EV l prog_9_method_5_code "PrunedSearch$Terms" 7 (some .int) 1 27 [(0, vR 19), (1, vR 9), (3, vI x3), (4, vI x4), (5, vI x5)] [] (shC o0 o1 o2 pr o4 o5 te o7 o8 o9 o10) K') (H : Ter_copy_p_71 L27 x3 x4 x5 x6 s0 s1 pr te K) (hK : ∀ (r : Int) (te' : Ob), K r te' → K' (some (vI r)) (shC o0 o1 o2 pr o4 o5 te' o7 o8 o9 o10)) : EV l prog_9_method_5_code "PrunedSearch$Terms" 7 (some .int) 1 71 [(0, vR 19), (1, vR 9), (3, vI x3), (4, vI x4), (5, vI x5), (6, vI x6)] [vI s0, vI s1, vR 20] (shC o0 o1 o2 pr o4 o5 te o7 o8 o9 o10) K' := by
  obtain ⟨hi, H⟩ := H
  refine EV_iast d_Ter_copy_r_71 shC_20 hi shC_20_s ?_
  refine EV_aload_n 0 d_Ter_copy_r_72 rfl rfl ?_
  refine EV_get (j := 1) d_Ter_copy_r_73 shC_19 rfl fI6 (by decide) k_156 rfl ?_
  refine EV_aload_n 0 d_Ter_copy_r_76 rfl rfl ?_
  refine EV_get (j := 7) d_Ter_copy_r_77 shC_19 rfl fI6 (by decide) k_162 rfl ?_
  refine EV_aload_n 1 d_Ter_copy_r_80 rfl rfl ?_
  refine EV_iload 4 d_Ter_copy_r_81 rfl ?_
  refine EV_callV (as := [vI x5]) (st := [vI (te.1 0), vR 21]) d_Ter_copy_r_83 k_660 k_661 k_662 k_4 k_663 shC_9 rfl pd_106 ⟨by decide, by decide, Nat.le_of_ble_eq_true rfl⟩ rfl (ct_Cod_sizeAt_p H (fun r_5 H => ?_))
  obtain ⟨hi, H⟩ := H
  refine EV_iast d_Ter_copy_r_86 shC_21 hi shC_21_s ?_
  refine EV_aload_n 0 d_Ter_copy_r_87 rfl rfl ?_
  refine EV_get (j := 2) d_Ter_copy_r_88 shC_19 rfl fI6 (by decide) k_157 rfl ?_
  refine EV_aload_n 0 d_Ter_copy_r_91 rfl rfl ?_
  refine EV_get (j := 7) d_Ter_copy_r_92 shC_19 rfl fI6 (by decide) k_162 rfl ?_
  refine EV_iload 5 d_Ter_copy_r_95 rfl ?_
  refine EV_bipush d_Ter_copy_r_97 (by decide +kernel) ⟨by decide, by decide⟩ ?_
  refine EV_icmp_gt (tgt := 114) d_Ter_copy_r_99 (by decide) (fun hc => ?_) (fun hc => ?_)
  · have H := H.1 hc
    refine EV_iconst d_Ter_copy_r_114 ⟨by decide, by decide⟩ ?_
    refine EV_lv (lv' := [(0, vR 19), (1, vR 9), (3, vI x3), (4, vI x4), (5, vI x5)]) [0, 1, 2, 3, 4] rfl ?_
    exact ct_Ter_copy_p_115 hL27 H hK
  · have H := H.2 hc
    refine EV_aload_n 0 d_Ter_copy_r_102 rfl rfl ?_
    refine EV_bipush d_Ter_copy_r_103 (by decide +kernel) ⟨by decide, by decide⟩ ?_
    refine EV_iload 5 d_Ter_copy_r_105 rfl ?_
    obtain ⟨hr, H⟩ := H
    refine EV_isub d_Ter_copy_r_107 hr ?_
    refine EV_callV (as := [vI ((-2) - x6)]) (st := [vI (te.1 0), vR 22]) d_Ter_copy_r_108 k_664 k_666 kp_17 k_8 k_667 shC_19 rfl pd_105 ⟨by decide, by decide, Nat.le_of_ble_eq_true rfl⟩ rfl (ct_Ter_sameVariable H (fun r_7 te_6 H => ?_))
    refine EV_goto (tgt := 115) d_Ter_copy_r_111 (by decide) ?_
    refine EV_lv (lv' := [(0, vR 19), (1, vR 9), (3, vI x3), (4, vI x4), (5, vI x5)]) [0, 1, 2, 3, 4] rfl ?_
    exact ct_Ter_copy_p_115 hL27 H hK
theorem ct_Ter_copy_p_27 {l : Launch} {o0 o1 o2 pr o4 o5 o7 o8 o9 o10 : Ob} {K : Int → Ob → Prop} {K' : Option AV → List AC → Prop} (hK : ∀ (r : Int) (te' : Ob), K r te' → K' (some (vI r)) (shC o0 o1 o2 pr o4 o5 te' o7 o8 o9 o10)) : ∀ (n : Nat) (x3 : Int) (x4 : Int) (x5 : Int) (te : Ob), Ter_copy_p_27 n x3 x4 x5 pr te K → EV l prog_9_method_5_code "PrunedSearch$Terms" 7 (some .int) 1 27 [(0, vR 19), (1, vR 9), (3, vI x3), (4, vI x4), (5, vI x5)] [] (shC o0 o1 o2 pr o4 o5 te o7 o8 o9 o10) K' := by
  intro n
  induction n with
  | zero =>
    intro x3 x4 x5 te H
    exact H.elim
  | succ n ih =>
    intro x3 x4 x5 te H
    refine EV_iload 4 d_Ter_copy_r_27 rfl ?_
    refine EV_iload 3 d_Ter_copy_r_29 rfl ?_
    refine EV_icmp_ge (tgt := 132) d_Ter_copy_r_31 (by decide) (fun hc => ?_) (fun hc => ?_)
    · have H := H.1 hc
      refine EV_iload_n 2 d_Ter_copy_r_132 rfl rfl ?_
      exact EV_iret d_Ter_copy_r_133 rfl (nw_int _) (hK _ _ H)
    · have H := H.2 hc
      refine EV_aload_n 0 d_Ter_copy_r_34 rfl rfl ?_
      refine EV_get (j := 7) d_Ter_copy_r_35 shC_19 rfl fI6 (by decide) k_162 rfl ?_
      refine EV_sipush d_Ter_copy_r_38 (by decide +kernel) ⟨by decide, by decide⟩ ?_
      refine EV_icmp_ge (tgt := 132) d_Ter_copy_r_41 (by decide) (fun hc => ?_) (fun hc => ?_)
      · have H := H.1 hc
        refine EV_iload_n 2 d_Ter_copy_r_132 rfl rfl ?_
        exact EV_iret d_Ter_copy_r_133 rfl (nw_int _) (hK _ _ H)
      · have H := H.2 hc
        refine EV_aload_n 1 d_Ter_copy_r_44 rfl rfl ?_
        refine EV_iload 4 d_Ter_copy_r_45 rfl ?_
        refine EV_callV (as := [vI x5]) (st := []) d_Ter_copy_r_47 k_659 k_633 k_634 k_4 k_635 shC_9 rfl pd_98 ⟨by decide, by decide, Nat.le_of_ble_eq_true rfl⟩ rfl (ct_Cod_symbolAt_p H (fun r_4 H => ?_))
        refine EV_istore (lv' := [(0, vR 19), (1, vR 9), (3, vI x3), (4, vI x4), (5, vI x5), (6, vI r_4)]) [1, 2, 3, 4, 5, 0] d_Ter_copy_r_50 (by decide) rfl ?_
        refine EV_aload_n 0 d_Ter_copy_r_52 rfl rfl ?_
        refine EV_get (j := 0) d_Ter_copy_r_53 shC_19 rfl fI6 (by decide) k_155 rfl ?_
        refine EV_aload_n 0 d_Ter_copy_r_56 rfl rfl ?_
        refine EV_get (j := 7) d_Ter_copy_r_57 shC_19 rfl fI6 (by decide) k_162 rfl ?_
        refine EV_iload 5 d_Ter_copy_r_60 rfl ?_
        refine EV_if_ge (tgt := 69) d_Ter_copy_r_62 (by decide) (fun hc => ?_) (fun hc => ?_)
        · have H := H.1 hc
          refine EV_iload 5 d_Ter_copy_r_69 rfl ?_
          exact ct_Ter_copy_p_71 (fun x3 x4 x5 te' H => ih x3 x4 x5 te' H) H hK
        · have H := H.2 hc
          refine EV_iconst d_Ter_copy_r_65 ⟨by decide, by decide⟩ ?_
          refine EV_goto (tgt := 71) d_Ter_copy_r_66 (by decide) ?_
          exact ct_Ter_copy_p_71 (fun x3 x4 x5 te' H => ih x3 x4 x5 te' H) H hK
theorem ct_Ter_copy_p {l : Launch} {o0 o1 o2 pr o4 o5 te o7 o8 o9 o10 : Ob} {x2 : Int} {K : Int → Ob → Prop} {K' : Option AV → List AC → Prop} (H : wp_Ter_copy_p x2 pr te K) (hK : ∀ (r : Int) (te' : Ob), K r te' → K' (some (vI r)) (shC o0 o1 o2 pr o4 o5 te' o7 o8 o9 o10)) : MT l ⟨"PrunedSearch$Terms", "copy", "(LPrunedSearch$Code;I)I"⟩ prog_9_method_5_code 7 (some .int) 1 [vR 19, vR 9, vI x2] (shC o0 o1 o2 pr o4 o5 te o7 o8 o9 o10) K' := by
  unfold wp_Ter_copy_p at H
  refine MT_of (lv := [(0, vR 19), (1, vR 9), (2, vI x2)]) rfl rfl (Nat.le_of_ble_eq_true rfl) rfl ?_
  refine EV_aload_n 0 d_Ter_copy_r_0 rfl rfl ?_
  refine EV_get (j := 6) d_Ter_copy_r_1 shC_19 rfl fI6 (by decide) k_161 rfl ?_
  refine EV_iconst d_Ter_copy_r_4 ⟨by decide, by decide⟩ ?_
  refine EV_callT (as := [vR 26, vI (-1)]) (st := []) d_Ter_copy_r_5 k_654 k_655 k_19 k_656 pd_107 ⟨by decide, by decide, Nat.le_of_ble_eq_true rfl⟩ rfl (ct_Arr_fill_26 H (fun te_1 H => ?_))
  refine EV_aload_n 0 d_Ter_copy_r_8 rfl rfl ?_
  refine EV_get (j := 7) d_Ter_copy_r_9 shC_19 rfl fI6 (by decide) k_162 rfl ?_
  refine EV_istore_n (lv' := [(0, vR 19), (1, vR 9), (2, vI x2), (3, vI (te_1.1 0))]) [1, 2, 3, 0] d_Ter_copy_r_12 rfl (by decide) rfl ?_
  refine EV_aload_n 1 d_Ter_copy_r_13 rfl rfl ?_
  refine EV_iload_n 2 d_Ter_copy_r_14 rfl rfl ?_
  refine EV_callV (as := [vI x2]) (st := []) d_Ter_copy_r_15 k_657 k_629 k_630 k_4 k_631 shC_9 rfl pd_99 ⟨by decide, by decide, Nat.le_of_ble_eq_true rfl⟩ rfl (ct_Cod_endOf_p H (fun r_2 H => ?_))
  refine EV_istore (lv' := [(0, vR 19), (1, vR 9), (2, vI x2), (3, vI (te_1.1 0)), (4, vI r_2)]) [1, 2, 3, 4, 0] d_Ter_copy_r_18 (by decide) rfl ?_
  refine EV_aload_n 1 d_Ter_copy_r_20 rfl rfl ?_
  refine EV_iload_n 2 d_Ter_copy_r_21 rfl rfl ?_
  refine EV_callV (as := [vI x2]) (st := []) d_Ter_copy_r_22 k_658 k_581 k_582 k_4 k_583 shC_9 rfl pd_83 ⟨by decide, by decide, Nat.le_of_ble_eq_true rfl⟩ rfl (ct_Cod_startOf_p H (fun r_3 H => ?_))
  refine EV_istore (lv' := [(0, vR 19), (1, vR 9), (2, vI x2), (3, vI (te_1.1 0)), (4, vI r_2), (5, vI r_3)]) [1, 2, 3, 4, 5, 0] d_Ter_copy_r_25 (by decide) rfl ?_
  refine EV_lv (lv' := [(0, vR 19), (1, vR 9), (3, vI (te_1.1 0)), (4, vI r_2), (5, vI r_3)]) [0, 1, 3, 4, 5] rfl ?_
  obtain ⟨n, H⟩ := H
  exact ct_Ter_copy_p_27 hK n (te_1.1 0) r_2 r_3 te_1 H
theorem ct_Ter_push {l : Launch} {o0 o1 o2 o3 o4 o5 te o7 o8 o9 o10 : Ob} {x1 : Int} {K : Ob → Prop} {K' : Option AV → List AC → Prop} (H : wp_Ter_push x1 te K) (hK : ∀ (te' : Ob), K te' → K' none (shC o0 o1 o2 o3 o4 o5 te' o7 o8 o9 o10)) : MT l ⟨"PrunedSearch$Terms", "push", "(I)V"⟩ prog_9_method_21_code 2 none 0 [vR 19, vI x1] (shC o0 o1 o2 o3 o4 o5 te o7 o8 o9 o10) K' := by
  unfold wp_Ter_push at H
  refine MT_of (lv := [(0, vR 19), (1, vI x1)]) rfl rfl (Nat.le_of_ble_eq_true rfl) rfl ?_
  refine EV_aload_n 0 d_Ter_push_0 rfl rfl ?_
  refine EV_get (j := 9) d_Ter_push_1 shC_19 rfl fI6 (by decide) k_164 rfl ?_
  refine EV_sipush d_Ter_push_4 (by decide +kernel) ⟨by decide, by decide⟩ ?_
  refine EV_icmp_ge (tgt := 30) d_Ter_push_7 (by decide) (fun hc => ?_) (fun hc => ?_)
  · have H := H.1 hc
    exact EV_vret d_Ter_push_30 rfl (hK _ H)
  · have H := H.2 hc
    refine EV_aload_n 0 d_Ter_push_10 rfl rfl ?_
    refine EV_get (j := 5) d_Ter_push_11 shC_19 rfl fI6 (by decide) k_160 rfl ?_
    refine EV_aload_n 0 d_Ter_push_14 rfl rfl ?_
    refine EV_get (j := 9) d_Ter_push_15 shC_19 rfl fI6 (by decide) k_164 rfl ?_
    refine EV_iload_n 1 d_Ter_push_18 rfl rfl ?_
    obtain ⟨hi, H⟩ := H
    refine EV_iast d_Ter_push_19 shC_25 hi shC_25_s ?_
    refine EV_aload_n 0 d_Ter_push_20 rfl rfl ?_
    refine EV_dup d_Ter_push_21 rfl ?_
    refine EV_get (j := 9) d_Ter_push_22 shC_19 rfl fI6 (by decide) k_164 rfl ?_
    refine EV_iconst d_Ter_push_25 ⟨by decide, by decide⟩ ?_
    obtain ⟨hr, H⟩ := H
    refine EV_iadd d_Ter_push_26 hr ?_
    refine EV_put (j := 9) d_Ter_push_27 shC_19 rfl fI6 fO6 fN6 (by decide) k_164 rfl rfl (fun ad => nf_int ad _) (Nat.le_of_ble_eq_true rfl) shC_19_9 ?_
    exact EV_vret d_Ter_push_30 rfl (hK _ H)
theorem ct_Ter_pop_17 {l : Launch} {o0 o1 o2 o3 o4 o5 o7 o8 o9 o10 : Ob} {K : Int → Ob → Prop} {K' : Option AV → List AC → Prop} {te : Ob} (H : Ter_pop_17 te K) (hK : ∀ (r : Int) (te' : Ob), K r te' → K' (some (vI r)) (shC o0 o1 o2 o3 o4 o5 te' o7 o8 o9 o10)) : EV l prog_9_method_22_code "PrunedSearch$Terms" 1 (some .int) 0 17 [(0, vR 19)] [] (shC o0 o1 o2 o3 o4 o5 te o7 o8 o9 o10) K' := by
  refine EV_aload_n 0 d_Ter_pop_17 rfl rfl ?_
  refine EV_get (j := 5) d_Ter_pop_18 shC_19 rfl fI6 (by decide) k_160 rfl ?_
  refine EV_aload_n 0 d_Ter_pop_21 rfl rfl ?_
  refine EV_get (j := 9) d_Ter_pop_22 shC_19 rfl fI6 (by decide) k_164 rfl ?_
  obtain ⟨hi, H⟩ := H
  refine EV_iald d_Ter_pop_25 shC_25 hi ?_
  exact EV_iret d_Ter_pop_26 rfl (nw_int _) (hK _ _ H)
theorem ct_Ter_pop {l : Launch} {o0 o1 o2 o3 o4 o5 te o7 o8 o9 o10 : Ob} {K : Int → Ob → Prop} {K' : Option AV → List AC → Prop} (H : wp_Ter_pop te K) (hK : ∀ (r : Int) (te' : Ob), K r te' → K' (some (vI r)) (shC o0 o1 o2 o3 o4 o5 te' o7 o8 o9 o10)) : MT l ⟨"PrunedSearch$Terms", "pop", "()I"⟩ prog_9_method_22_code 1 (some .int) 0 [vR 19] (shC o0 o1 o2 o3 o4 o5 te o7 o8 o9 o10) K' := by
  unfold wp_Ter_pop at H
  refine MT_of (lv := [(0, vR 19)]) rfl rfl (Nat.le_of_ble_eq_true rfl) rfl ?_
  refine EV_aload_n 0 d_Ter_pop_0 rfl rfl ?_
  refine EV_get (j := 9) d_Ter_pop_1 shC_19 rfl fI6 (by decide) k_164 rfl ?_
  refine EV_if_le (tgt := 17) d_Ter_pop_4 (by decide) (fun hc => ?_) (fun hc => ?_)
  · have H := H.1 hc
    exact ct_Ter_pop_17 H hK
  · have H := H.2 hc
    refine EV_aload_n 0 d_Ter_pop_7 rfl rfl ?_
    refine EV_dup d_Ter_pop_8 rfl ?_
    refine EV_get (j := 9) d_Ter_pop_9 shC_19 rfl fI6 (by decide) k_164 rfl ?_
    refine EV_iconst d_Ter_pop_12 ⟨by decide, by decide⟩ ?_
    obtain ⟨hr, H⟩ := H
    refine EV_isub d_Ter_pop_13 hr ?_
    refine EV_put (j := 9) d_Ter_pop_14 shC_19 rfl fI6 fO6 fN6 (by decide) k_164 rfl rfl (fun ad => nf_int ad _) (Nat.le_of_ble_eq_true rfl) shC_19_9 ?_
    exact ct_Ter_pop_17 H hK
theorem ct_Ter_nextStanding {l : Launch} {o0 o1 o2 o3 o4 o5 te o7 o8 o9 o10 : Ob} {x1 : Int} {K : Int → Prop} {K' : Option AV → List AC → Prop} (H : wp_Ter_nextStanding x1 te K) (hK : ∀ (r : Int), K r → K' (some (vI r)) (shC o0 o1 o2 o3 o4 o5 te o7 o8 o9 o10)) : MT l ⟨"PrunedSearch$Terms", "nextStanding", "(I)I"⟩ prog_9_method_12_code 2 (some .int) 0 [vR 19, vI x1] (shC o0 o1 o2 o3 o4 o5 te o7 o8 o9 o10) K' := by
  unfold wp_Ter_nextStanding at H
  refine MT_of (lv := [(0, vR 19), (1, vI x1)]) rfl rfl (Nat.le_of_ble_eq_true rfl) rfl ?_
  refine EV_iload_n 1 d_Ter_nextStanding_0 rfl rfl ?_
  refine EV_if_lt (tgt := 21) d_Ter_nextStanding_1 (by decide) (fun hc => ?_) (fun hc => ?_)
  · have H := H.1 hc
    refine EV_iconst d_Ter_nextStanding_21 ⟨by decide, by decide⟩ ?_
    exact EV_iret d_Ter_nextStanding_22 rfl (nw_int _) (hK _ H)
  · have H := H.2 hc
    refine EV_iload_n 1 d_Ter_nextStanding_4 rfl rfl ?_
    refine EV_aload_n 0 d_Ter_nextStanding_5 rfl rfl ?_
    refine EV_get (j := 7) d_Ter_nextStanding_6 shC_19 rfl fI6 (by decide) k_162 rfl ?_
    refine EV_icmp_ge (tgt := 21) d_Ter_nextStanding_9 (by decide) (fun hc => ?_) (fun hc => ?_)
    · have H := H.1 hc
      refine EV_iconst d_Ter_nextStanding_21 ⟨by decide, by decide⟩ ?_
      exact EV_iret d_Ter_nextStanding_22 rfl (nw_int _) (hK _ H)
    · have H := H.2 hc
      refine EV_aload_n 0 d_Ter_nextStanding_12 rfl rfl ?_
      refine EV_get (j := 2) d_Ter_nextStanding_13 shC_19 rfl fI6 (by decide) k_157 rfl ?_
      refine EV_iload_n 1 d_Ter_nextStanding_16 rfl rfl ?_
      obtain ⟨hi, H⟩ := H
      refine EV_iald d_Ter_nextStanding_17 shC_22 hi ?_
      refine EV_goto (tgt := 22) d_Ter_nextStanding_18 (by decide) ?_
      exact EV_iret d_Ter_nextStanding_22 rfl (nw_int _) (hK _ H)
theorem ct_Ter_standing_4 {l : Launch} {o0 o1 o2 o3 o4 o5 te o7 o8 o9 o10 : Ob} {K : Int → Prop} {K' : Option AV → List AC → Prop} (hK : ∀ (r : Int), K r → K' (some (vI r)) (shC o0 o1 o2 o3 o4 o5 te o7 o8 o9 o10)) : ∀ (n : Nat) (x2 : Int) (x3 : Int), Ter_standing_4 n x2 x3 te K → EV l prog_9_method_11_code "PrunedSearch$Terms" 4 (some .int) 1 4 [(0, vR 19), (2, vI x2), (3, vI x3)] [] (shC o0 o1 o2 o3 o4 o5 te o7 o8 o9 o10) K' := by
  intro n
  induction n with
  | zero =>
    intro x2 x3 H
    exact H.elim
  | succ n ih =>
    intro x2 x3 H
    refine EV_iload_n 2 d_Ter_standing_4 rfl rfl ?_
    refine EV_sipush d_Ter_standing_5 (by decide +kernel) ⟨by decide, by decide⟩ ?_
    refine EV_icmp_ge (tgt := 32) d_Ter_standing_8 (by decide) (fun hc => ?_) (fun hc => ?_)
    · have H := H.1 hc
      refine EV_iload_n 1 d_Ter_standing_32 rfl rfl ?_
      exact EV_iret d_Ter_standing_33 rfl (nw_int _) (hK _ H)
    · have H := H.2 hc
      refine EV_aload_n 0 d_Ter_standing_11 rfl rfl ?_
      refine EV_iload_n 1 d_Ter_standing_12 rfl rfl ?_
      refine EV_callV (as := [vI x2]) (st := []) d_Ter_standing_13 k_764 k_766 kp_22 k_8 k_767 shC_19 rfl pd_124 ⟨by decide, by decide, Nat.le_of_ble_eq_true rfl⟩ rfl (ct_Ter_nextStanding H (fun r_1 H => ?_))
      refine EV_iconst d_Ter_standing_16 ⟨by decide, by decide⟩ ?_
      refine EV_icmp_eq (tgt := 32) d_Ter_standing_17 (by decide) (fun hc => ?_) (fun hc => ?_)
      · have H := H.1 hc
        refine EV_iload_n 1 d_Ter_standing_32 rfl rfl ?_
        exact EV_iret d_Ter_standing_33 rfl (nw_int _) (hK _ H)
      · have H := H.2 hc
        refine EV_aload_n 0 d_Ter_standing_20 rfl rfl ?_
        refine EV_iload_n 1 d_Ter_standing_21 rfl rfl ?_
        refine EV_callV (as := [vI x2]) (st := []) d_Ter_standing_22 k_764 k_766 kp_22 k_8 k_767 shC_19 rfl pd_124 ⟨by decide, by decide, Nat.le_of_ble_eq_true rfl⟩ rfl (ct_Ter_nextStanding H (fun r_2 H => ?_))
        refine EV_istore_n (lv' := [(0, vR 19), (2, vI r_2), (3, vI x3)]) [1, 0, 2] d_Ter_standing_25 rfl (by decide) rfl ?_
        obtain ⟨hr, H⟩ := H
        refine EV_iinc (lv' := [(0, vR 19), (2, vI r_2), (3, vI (x3 + 1))]) 2 [1, 2, 0] d_Ter_standing_26 rfl (by decide) hr rfl ?_
        refine EV_goto (tgt := 4) d_Ter_standing_29 (by decide) ?_
        exact ih r_2 (x3 + 1) H
theorem ct_Ter_standing {l : Launch} {o0 o1 o2 o3 o4 o5 te o7 o8 o9 o10 : Ob} {x1 : Int} {K : Int → Prop} {K' : Option AV → List AC → Prop} (H : wp_Ter_standing x1 te K) (hK : ∀ (r : Int), K r → K' (some (vI r)) (shC o0 o1 o2 o3 o4 o5 te o7 o8 o9 o10)) : MT l ⟨"PrunedSearch$Terms", "standing", "(I)I"⟩ prog_9_method_11_code 4 (some .int) 1 [vR 19, vI x1] (shC o0 o1 o2 o3 o4 o5 te o7 o8 o9 o10) K' := by
  unfold wp_Ter_standing at H
  refine MT_of (lv := [(0, vR 19), (1, vI x1)]) rfl rfl (Nat.le_of_ble_eq_true rfl) rfl ?_
  refine EV_iload_n 1 d_Ter_standing_0 rfl rfl ?_
  refine EV_istore_n (lv' := [(0, vR 19), (1, vI x1), (2, vI x1)]) [1, 2, 0] d_Ter_standing_1 rfl (by decide) rfl ?_
  refine EV_iconst d_Ter_standing_2 ⟨by decide, by decide⟩ ?_
  refine EV_istore_n (lv' := [(0, vR 19), (1, vI x1), (2, vI x1), (3, vI 0)]) [1, 2, 3, 0] d_Ter_standing_3 rfl (by decide) rfl ?_
  refine EV_lv (lv' := [(0, vR 19), (2, vI x1), (3, vI 0)]) [0, 2, 3] rfl ?_
  obtain ⟨n, H⟩ := H
  exact ct_Ter_standing_4 hK n x1 0 H
theorem ct_Ter_symbolAt {l : Launch} {o0 o1 o2 o3 o4 o5 te o7 o8 o9 o10 : Ob} {x1 : Int} {K : Int → Prop} {K' : Option AV → List AC → Prop} (H : wp_Ter_symbolAt x1 te K) (hK : ∀ (r : Int), K r → K' (some (vI r)) (shC o0 o1 o2 o3 o4 o5 te o7 o8 o9 o10)) : MT l ⟨"PrunedSearch$Terms", "symbolAt", "(I)I"⟩ prog_9_method_8_code 2 (some .int) 0 [vR 19, vI x1] (shC o0 o1 o2 o3 o4 o5 te o7 o8 o9 o10) K' := by
  unfold wp_Ter_symbolAt at H
  refine MT_of (lv := [(0, vR 19), (1, vI x1)]) rfl rfl (Nat.le_of_ble_eq_true rfl) rfl ?_
  refine EV_iload_n 1 d_Ter_symbolAt_0 rfl rfl ?_
  refine EV_if_lt (tgt := 21) d_Ter_symbolAt_1 (by decide) (fun hc => ?_) (fun hc => ?_)
  · have H := H.1 hc
    refine EV_iconst d_Ter_symbolAt_21 ⟨by decide, by decide⟩ ?_
    exact EV_iret d_Ter_symbolAt_22 rfl (nw_int _) (hK _ H)
  · have H := H.2 hc
    refine EV_iload_n 1 d_Ter_symbolAt_4 rfl rfl ?_
    refine EV_aload_n 0 d_Ter_symbolAt_5 rfl rfl ?_
    refine EV_get (j := 7) d_Ter_symbolAt_6 shC_19 rfl fI6 (by decide) k_162 rfl ?_
    refine EV_icmp_ge (tgt := 21) d_Ter_symbolAt_9 (by decide) (fun hc => ?_) (fun hc => ?_)
    · have H := H.1 hc
      refine EV_iconst d_Ter_symbolAt_21 ⟨by decide, by decide⟩ ?_
      exact EV_iret d_Ter_symbolAt_22 rfl (nw_int _) (hK _ H)
    · have H := H.2 hc
      refine EV_aload_n 0 d_Ter_symbolAt_12 rfl rfl ?_
      refine EV_get (j := 0) d_Ter_symbolAt_13 shC_19 rfl fI6 (by decide) k_155 rfl ?_
      refine EV_iload_n 1 d_Ter_symbolAt_16 rfl rfl ?_
      obtain ⟨hi, H⟩ := H
      refine EV_iald d_Ter_symbolAt_17 shC_20 hi ?_
      refine EV_goto (tgt := 22) d_Ter_symbolAt_18 (by decide) ?_
      exact EV_iret d_Ter_symbolAt_22 rfl (nw_int _) (hK _ H)
theorem ct_Ter_letStand {l : Launch} {o0 o1 o2 o3 o4 o5 te o7 o8 o9 o10 : Ob} {x1 : Int} {x2 : Int} {K : Ob → Prop} {K' : Option AV → List AC → Prop} (H : wp_Ter_letStand x1 x2 te K) (hK : ∀ (te' : Ob), K te' → K' none (shC o0 o1 o2 o3 o4 o5 te' o7 o8 o9 o10)) : MT l ⟨"PrunedSearch$Terms", "letStand", "(II)V"⟩ prog_9_method_14_code 3 none 0 [vR 19, vI x1, vI x2] (shC o0 o1 o2 o3 o4 o5 te o7 o8 o9 o10) K' := by
  unfold wp_Ter_letStand at H
  refine MT_of (lv := [(0, vR 19), (1, vI x1), (2, vI x2)]) rfl rfl (Nat.le_of_ble_eq_true rfl) rfl ?_
  refine EV_aload_n 0 d_Ter_letStand_0 rfl rfl ?_
  refine EV_get (j := 8) d_Ter_letStand_1 shC_19 rfl fI6 (by decide) k_163 rfl ?_
  refine EV_sipush d_Ter_letStand_4 (by decide +kernel) ⟨by decide, by decide⟩ ?_
  refine EV_icmp_ge (tgt := 49) d_Ter_letStand_7 (by decide) (fun hc => ?_) (fun hc => ?_)
  · have H := H.1 hc
    exact EV_vret d_Ter_letStand_49 rfl (hK _ H)
  · have H := H.2 hc
    refine EV_iload_n 1 d_Ter_letStand_10 rfl rfl ?_
    refine EV_if_lt (tgt := 49) d_Ter_letStand_11 (by decide) (fun hc => ?_) (fun hc => ?_)
    · have H := H.1 hc
      exact EV_vret d_Ter_letStand_49 rfl (hK _ H)
    · have H := H.2 hc
      refine EV_iload_n 1 d_Ter_letStand_14 rfl rfl ?_
      refine EV_aload_n 0 d_Ter_letStand_15 rfl rfl ?_
      refine EV_get (j := 7) d_Ter_letStand_16 shC_19 rfl fI6 (by decide) k_162 rfl ?_
      refine EV_icmp_ge (tgt := 49) d_Ter_letStand_19 (by decide) (fun hc => ?_) (fun hc => ?_)
      · have H := H.1 hc
        exact EV_vret d_Ter_letStand_49 rfl (hK _ H)
      · have H := H.2 hc
        refine EV_aload_n 0 d_Ter_letStand_22 rfl rfl ?_
        refine EV_get (j := 2) d_Ter_letStand_23 shC_19 rfl fI6 (by decide) k_157 rfl ?_
        refine EV_iload_n 1 d_Ter_letStand_26 rfl rfl ?_
        refine EV_iload_n 2 d_Ter_letStand_27 rfl rfl ?_
        obtain ⟨hi, H⟩ := H
        refine EV_iast d_Ter_letStand_28 shC_22 hi shC_22_s ?_
        refine EV_aload_n 0 d_Ter_letStand_29 rfl rfl ?_
        refine EV_get (j := 4) d_Ter_letStand_30 shC_19 rfl fI6 (by decide) k_159 rfl ?_
        refine EV_aload_n 0 d_Ter_letStand_33 rfl rfl ?_
        refine EV_get (j := 8) d_Ter_letStand_34 shC_19 rfl fI6 (by decide) k_163 rfl ?_
        refine EV_iload_n 1 d_Ter_letStand_37 rfl rfl ?_
        obtain ⟨hi, H⟩ := H
        refine EV_iast d_Ter_letStand_38 shC_24 hi shC_24_s ?_
        refine EV_aload_n 0 d_Ter_letStand_39 rfl rfl ?_
        refine EV_dup d_Ter_letStand_40 rfl ?_
        refine EV_get (j := 8) d_Ter_letStand_41 shC_19 rfl fI6 (by decide) k_163 rfl ?_
        refine EV_iconst d_Ter_letStand_44 ⟨by decide, by decide⟩ ?_
        obtain ⟨hr, H⟩ := H
        refine EV_iadd d_Ter_letStand_45 hr ?_
        refine EV_put (j := 8) d_Ter_letStand_46 shC_19 rfl fI6 fO6 fN6 (by decide) k_163 rfl rfl (fun ad => nf_int ad _) (Nat.le_of_ble_eq_true rfl) shC_19_8 ?_
        exact EV_vret d_Ter_letStand_49 rfl (hK _ H)
theorem ct_Ter_pushPairs_22 {l : Launch} {o0 o1 o2 o3 o4 o5 o7 o8 o9 o10 : Ob} {K : Ob → Prop} {K' : Option AV → List AC → Prop} (hK : ∀ (te' : Ob), K te' → K' none (shC o0 o1 o2 o3 o4 o5 te' o7 o8 o9 o10)) : ∀ (n : Nat) (x3 : Int) (x4 : Int) (x5 : Int) (x6 : Int) (te : Ob), Ter_pushPairs_22 n x3 x4 x5 x6 te K → EV l prog_9_method_15_code "PrunedSearch$Terms" 7 none 1 22 [(0, vR 19), (3, vI x3), (4, vI x4), (5, vI x5), (6, vI x6)] [] (shC o0 o1 o2 o3 o4 o5 te o7 o8 o9 o10) K' := by
  intro n
  induction n with
  | zero =>
    intro x3 x4 x5 x6 te H
    exact H.elim
  | succ n ih =>
    intro x3 x4 x5 x6 te H
    refine EV_iload 4 d_Ter_pushPairs_22 rfl ?_
    refine EV_iload_n 1 d_Ter_pushPairs_24 rfl rfl ?_
    refine EV_icmp_ge (tgt := 68) d_Ter_pushPairs_25 (by decide) (fun hc => ?_) (fun hc => ?_)
    · have H := H.1 hc
      exact EV_vret d_Ter_pushPairs_68 rfl (hK _ H)
    · have H := H.2 hc
      refine EV_aload_n 0 d_Ter_pushPairs_28 rfl rfl ?_
      refine EV_iload 2 d_Ter_pushPairs_29 rfl ?_
      refine EV_callV (as := [vI x4]) (st := []) d_Ter_pushPairs_31 k_798 k_800 kp_25 k_8 k_801 shC_19 rfl pd_125 ⟨by decide, by decide, Nat.le_of_ble_eq_true rfl⟩ rfl (ct_Ter_push H (fun te_3 H => ?_))
      refine EV_aload_n 0 d_Ter_pushPairs_34 rfl rfl ?_
      refine EV_iload 3 d_Ter_pushPairs_35 rfl ?_
      refine EV_callV (as := [vI x5]) (st := []) d_Ter_pushPairs_37 k_798 k_800 kp_25 k_8 k_801 shC_19 rfl pd_125 ⟨by decide, by decide, Nat.le_of_ble_eq_true rfl⟩ rfl (ct_Ter_push H (fun te_4 H => ?_))
      refine EV_iload 2 d_Ter_pushPairs_40 rfl ?_
      refine EV_aload_n 0 d_Ter_pushPairs_42 rfl rfl ?_
      refine EV_iload 2 d_Ter_pushPairs_43 rfl ?_
      refine EV_callV (as := [vI x4]) (st := [vI x4]) d_Ter_pushPairs_45 k_818 k_677 k_678 k_8 k_679 shC_19 rfl pd_108 ⟨by decide, by decide, Nat.le_of_ble_eq_true rfl⟩ rfl (ct_Ter_sizeAt H (fun r_5 H => ?_))
      obtain ⟨hr, H⟩ := H
      refine EV_iadd d_Ter_pushPairs_48 hr ?_
      refine EV_istore (lv' := [(0, vR 19), (3, vI x3), (4, vI (x4 + r_5)), (5, vI x5), (6, vI x6)]) [1, 2, 0, 3, 4] d_Ter_pushPairs_49 (by decide) rfl ?_
      refine EV_iload 3 d_Ter_pushPairs_51 rfl ?_
      refine EV_aload_n 0 d_Ter_pushPairs_53 rfl rfl ?_
      refine EV_iload 3 d_Ter_pushPairs_54 rfl ?_
      refine EV_callV (as := [vI x5]) (st := [vI x5]) d_Ter_pushPairs_56 k_818 k_677 k_678 k_8 k_679 shC_19 rfl pd_108 ⟨by decide, by decide, Nat.le_of_ble_eq_true rfl⟩ rfl (ct_Ter_sizeAt H (fun r_6 H => ?_))
      obtain ⟨hr, H⟩ := H
      refine EV_iadd d_Ter_pushPairs_59 hr ?_
      refine EV_istore (lv' := [(0, vR 19), (3, vI x3), (4, vI (x4 + r_5)), (5, vI (x5 + r_6)), (6, vI x6)]) [1, 2, 3, 0, 4] d_Ter_pushPairs_60 (by decide) rfl ?_
      obtain ⟨hr, H⟩ := H
      refine EV_iinc (lv' := [(0, vR 19), (3, vI x3), (4, vI (x4 + r_5)), (5, vI (x5 + r_6)), (6, vI (x6 + 1))]) 4 [1, 2, 3, 4, 0] d_Ter_pushPairs_62 rfl (by decide) hr rfl ?_
      refine EV_goto (tgt := 22) d_Ter_pushPairs_65 (by decide) ?_
      exact ih x3 (x4 + r_5) (x5 + r_6) (x6 + 1) te_4 H
theorem ct_Ter_pushPairs {l : Launch} {o0 o1 o2 o3 o4 o5 te o7 o8 o9 o10 : Ob} {x1 : Int} {x2 : Int} {K : Ob → Prop} {K' : Option AV → List AC → Prop} (H : wp_Ter_pushPairs x1 x2 te K) (hK : ∀ (te' : Ob), K te' → K' none (shC o0 o1 o2 o3 o4 o5 te' o7 o8 o9 o10)) : MT l ⟨"PrunedSearch$Terms", "pushPairs", "(II)V"⟩ prog_9_method_15_code 7 none 1 [vR 19, vI x1, vI x2] (shC o0 o1 o2 o3 o4 o5 te o7 o8 o9 o10) K' := by
  unfold wp_Ter_pushPairs at H
  refine MT_of (lv := [(0, vR 19), (1, vI x1), (2, vI x2)]) rfl rfl (Nat.le_of_ble_eq_true rfl) rfl ?_
  refine EV_aload_n 0 d_Ter_pushPairs_0 rfl rfl ?_
  refine EV_iload_n 1 d_Ter_pushPairs_1 rfl rfl ?_
  refine EV_callV (as := [vI x1]) (st := []) d_Ter_pushPairs_2 k_808 k_742 k_743 k_8 k_744 shC_19 rfl pd_126 ⟨by decide, by decide, Nat.le_of_ble_eq_true rfl⟩ rfl (ct_Ter_symbolAt H (fun r_1 H => ?_))
  refine EV_callN (as := [vI r_1]) (st := []) d_Ter_pushPairs_5 k_817 k_593 k_1 k_594 pd_84 ⟨by decide, by decide, Nat.le_of_ble_eq_true rfl⟩ rfl (ct_P_argumentsOf H (fun r_2 H => ?_))
  refine EV_istore_n (lv' := [(0, vR 19), (1, vI x1), (2, vI x2), (3, vI r_2)]) [1, 2, 3, 0] d_Ter_pushPairs_8 rfl (by decide) rfl ?_
  refine EV_iload_n 1 d_Ter_pushPairs_9 rfl rfl ?_
  refine EV_iconst d_Ter_pushPairs_10 ⟨by decide, by decide⟩ ?_
  obtain ⟨hr, H⟩ := H
  refine EV_iadd d_Ter_pushPairs_11 hr ?_
  refine EV_istore (lv' := [(0, vR 19), (1, vI x1), (2, vI x2), (3, vI r_2), (4, vI (x1 + 1))]) [1, 2, 3, 4, 0] d_Ter_pushPairs_12 (by decide) rfl ?_
  refine EV_iload_n 2 d_Ter_pushPairs_14 rfl rfl ?_
  refine EV_iconst d_Ter_pushPairs_15 ⟨by decide, by decide⟩ ?_
  obtain ⟨hr, H⟩ := H
  refine EV_iadd d_Ter_pushPairs_16 hr ?_
  refine EV_istore (lv' := [(0, vR 19), (1, vI x1), (2, vI x2), (3, vI r_2), (4, vI (x1 + 1)), (5, vI (x2 + 1))]) [1, 2, 3, 4, 5, 0] d_Ter_pushPairs_17 (by decide) rfl ?_
  refine EV_iconst d_Ter_pushPairs_19 ⟨by decide, by decide⟩ ?_
  refine EV_istore (lv' := [(0, vR 19), (1, vI x1), (2, vI x2), (3, vI r_2), (4, vI (x1 + 1)), (5, vI (x2 + 1)), (6, vI 0)]) [1, 2, 3, 4, 5, 6, 0] d_Ter_pushPairs_20 (by decide) rfl ?_
  refine EV_lv (lv' := [(0, vR 19), (3, vI r_2), (4, vI (x1 + 1)), (5, vI (x2 + 1)), (6, vI 0)]) [0, 3, 4, 5, 6] rfl ?_
  obtain ⟨n, H⟩ := H
  exact ct_Ter_pushPairs_22 hK n r_2 (x1 + 1) (x2 + 1) 0 te H
theorem ct_Ter_join_139 {l : Launch} {o0 o1 o2 o3 o4 o5 o7 o8 o9 o10 : Ob} {K : Int → Ob → Prop} {K' : Option AV → List AC → Prop} {L17 : Int → Ob → Prop} {x3 : Int} {te : Ob} (hL17 : ∀ (x3 : Int) (te : Ob), L17 x3 te → EV l prog_9_method_13_code "PrunedSearch$Terms" 6 (some .boolean) 2 17 [(0, vR 19), (3, vI x3)] [] (shC o0 o1 o2 o3 o4 o5 te o7 o8 o9 o10) K') (H : Ter_join_139 L17 x3 te K) (hK : ∀ (r : Int) (te' : Ob), K r te' → K' (some (vI r)) (shC o0 o1 o2 o3 o4 o5 te' o7 o8 o9 o10)) : EV l prog_9_method_13_code "PrunedSearch$Terms" 6 (some .boolean) 2 139 [(0, vR 19), (3, vI x3)] [] (shC o0 o1 o2 o3 o4 o5 te o7 o8 o9 o10) K' := by
  obtain ⟨hr, H⟩ := H
  refine EV_iinc (lv' := [(0, vR 19), (3, vI (x3 + 1))]) 1 [1, 0] d_Ter_join_139 rfl (by decide) hr rfl ?_
  refine EV_goto (tgt := 17) d_Ter_join_142 (by decide) ?_
  exact hL17 (x3 + 1) te H
theorem ct_Ter_join_17 {l : Launch} {o0 o1 o2 o3 o4 o5 o7 o8 o9 o10 : Ob} {K : Int → Ob → Prop} {K' : Option AV → List AC → Prop} (hK : ∀ (r : Int) (te' : Ob), K r te' → K' (some (vI r)) (shC o0 o1 o2 o3 o4 o5 te' o7 o8 o9 o10)) : ∀ (n : Nat) (x3 : Int) (te : Ob), Ter_join_17 n x3 te K → EV l prog_9_method_13_code "PrunedSearch$Terms" 6 (some .boolean) 2 17 [(0, vR 19), (3, vI x3)] [] (shC o0 o1 o2 o3 o4 o5 te o7 o8 o9 o10) K' := by
  intro n
  induction n with
  | zero =>
    intro x3 te H
    exact H.elim
  | succ n ih =>
    intro x3 te H
    refine EV_iload_n 1 d_Ter_join_17 rfl rfl ?_
    refine EV_ldc (n := 1000000) d_Ter_join_18 k_802 (by decide +kernel) ⟨by decide, by decide⟩ ?_
    refine EV_icmp_ge (tgt := 145) d_Ter_join_20 (by decide) (fun hc => ?_) (fun hc => ?_)
    · have H := H.1 hc
      refine EV_iconst d_Ter_join_145 ⟨by decide, by decide⟩ ?_
      exact EV_iret d_Ter_join_146 rfl (nw_bool (by decide)) (hK _ _ H)
    · have H := H.2 hc
      refine EV_aload_n 0 d_Ter_join_23 rfl rfl ?_
      refine EV_get (j := 9) d_Ter_join_24 shC_19 rfl fI6 (by decide) k_164 rfl ?_
      refine EV_iconst d_Ter_join_27 ⟨by decide, by decide⟩ ?_
      refine EV_icmp_le (tgt := 145) d_Ter_join_28 (by decide) (fun hc => ?_) (fun hc => ?_)
      · have H := H.1 hc
        refine EV_iconst d_Ter_join_145 ⟨by decide, by decide⟩ ?_
        exact EV_iret d_Ter_join_146 rfl (nw_bool (by decide)) (hK _ _ H)
      · have H := H.2 hc
        refine EV_aload_n 0 d_Ter_join_31 rfl rfl ?_
        refine EV_aload_n 0 d_Ter_join_32 rfl rfl ?_
        refine EV_callV (as := []) (st := [vR 19]) d_Ter_join_33 k_803 k_805 kp_26 k_8 k_806 shC_19 rfl pd_130 ⟨by decide, by decide, Nat.le_of_ble_eq_true rfl⟩ rfl (ct_Ter_pop H (fun r_4 te_3 H => ?_))
        refine EV_callV (as := [vI r_4]) (st := []) d_Ter_join_36 k_807 k_761 k_762 k_8 k_763 shC_19 rfl pd_129 ⟨by decide, by decide, Nat.le_of_ble_eq_true rfl⟩ rfl (ct_Ter_standing H (fun r_5 H => ?_))
        refine EV_istore (lv' := [(0, vR 19), (3, vI x3), (4, vI r_5)]) [1, 2, 0] d_Ter_join_39 (by decide) rfl ?_
        refine EV_aload_n 0 d_Ter_join_41 rfl rfl ?_
        refine EV_aload_n 0 d_Ter_join_42 rfl rfl ?_
        refine EV_callV (as := []) (st := [vR 19]) d_Ter_join_43 k_803 k_805 kp_26 k_8 k_806 shC_19 rfl pd_130 ⟨by decide, by decide, Nat.le_of_ble_eq_true rfl⟩ rfl (ct_Ter_pop H (fun r_7 te_6 H => ?_))
        refine EV_callV (as := [vI r_7]) (st := []) d_Ter_join_46 k_807 k_761 k_762 k_8 k_763 shC_19 rfl pd_129 ⟨by decide, by decide, Nat.le_of_ble_eq_true rfl⟩ rfl (ct_Ter_standing H (fun r_8 H => ?_))
        refine EV_istore (lv' := [(0, vR 19), (3, vI x3), (4, vI r_5), (5, vI r_8)]) [1, 2, 3, 0] d_Ter_join_49 (by decide) rfl ?_
        refine EV_iload 2 d_Ter_join_51 rfl ?_
        refine EV_iload 3 d_Ter_join_53 rfl ?_
        refine EV_icmp_ne (tgt := 61) d_Ter_join_55 (by decide) (fun hc => ?_) (fun hc => ?_)
        · have H := H.1 hc
          refine EV_aload_n 0 d_Ter_join_61 rfl rfl ?_
          refine EV_iload 2 d_Ter_join_62 rfl ?_
          refine EV_callV (as := [vI r_5]) (st := []) d_Ter_join_64 k_808 k_742 k_743 k_8 k_744 shC_19 rfl pd_126 ⟨by decide, by decide, Nat.le_of_ble_eq_true rfl⟩ rfl (ct_Ter_symbolAt H (fun r_9 H => ?_))
          refine EV_iconst d_Ter_join_67 ⟨by decide, by decide⟩ ?_
          refine EV_icmp_ne (tgt := 82) d_Ter_join_68 (by decide) (fun hc => ?_) (fun hc => ?_)
          · have H := H.1 hc
            refine EV_aload_n 0 d_Ter_join_82 rfl rfl ?_
            refine EV_iload 3 d_Ter_join_83 rfl ?_
            refine EV_callV (as := [vI r_8]) (st := []) d_Ter_join_85 k_808 k_742 k_743 k_8 k_744 shC_19 rfl pd_126 ⟨by decide, by decide, Nat.le_of_ble_eq_true rfl⟩ rfl (ct_Ter_symbolAt H (fun r_10 H => ?_))
            refine EV_iconst d_Ter_join_88 ⟨by decide, by decide⟩ ?_
            refine EV_icmp_ne (tgt := 103) d_Ter_join_89 (by decide) (fun hc => ?_) (fun hc => ?_)
            · have H := H.1 hc
              refine EV_aload_n 0 d_Ter_join_103 rfl rfl ?_
              refine EV_iload 2 d_Ter_join_104 rfl ?_
              refine EV_callV (as := [vI r_5]) (st := []) d_Ter_join_106 k_808 k_742 k_743 k_8 k_744 shC_19 rfl pd_126 ⟨by decide, by decide, Nat.le_of_ble_eq_true rfl⟩ rfl (ct_Ter_symbolAt H (fun r_11 H => ?_))
              refine EV_aload_n 0 d_Ter_join_109 rfl rfl ?_
              refine EV_iload 3 d_Ter_join_110 rfl ?_
              refine EV_callV (as := [vI r_8]) (st := [vI r_11]) d_Ter_join_112 k_808 k_742 k_743 k_8 k_744 shC_19 rfl pd_126 ⟨by decide, by decide, Nat.le_of_ble_eq_true rfl⟩ rfl (ct_Ter_symbolAt H (fun r_12 H => ?_))
              refine EV_icmp_ne (tgt := 137) d_Ter_join_115 (by decide) (fun hc => ?_) (fun hc => ?_)
              · have H := H.1 hc
                refine EV_iconst d_Ter_join_137 ⟨by decide, by decide⟩ ?_
                exact EV_iret d_Ter_join_138 rfl (nw_bool (by decide)) (hK _ _ H)
              · have H := H.2 hc
                refine EV_aload_n 0 d_Ter_join_118 rfl rfl ?_
                refine EV_iload 2 d_Ter_join_119 rfl ?_
                refine EV_iload 3 d_Ter_join_121 rfl ?_
                refine EV_callV (as := [vI r_5, vI r_8]) (st := []) d_Ter_join_123 k_809 k_811 kp_27 k_8 k_812 shC_19 rfl pd_128 ⟨by decide, by decide, Nat.le_of_ble_eq_true rfl⟩ rfl (ct_Ter_letStand H (fun te_13 H => ?_))
                refine EV_aload_n 0 d_Ter_join_126 rfl rfl ?_
                refine EV_iload 2 d_Ter_join_127 rfl ?_
                refine EV_iload 3 d_Ter_join_129 rfl ?_
                refine EV_callV (as := [vI r_5, vI r_8]) (st := []) d_Ter_join_131 k_813 k_815 kp_28 k_8 k_816 shC_19 rfl pd_127 ⟨by decide, by decide, Nat.le_of_ble_eq_true rfl⟩ rfl (ct_Ter_pushPairs H (fun te_14 H => ?_))
                refine EV_goto (tgt := 139) d_Ter_join_134 (by decide) ?_
                refine EV_lv (lv' := [(0, vR 19), (3, vI x3)]) [0, 1] rfl ?_
                exact ct_Ter_join_139 (fun x3 te' H => ih x3 te' H) H hK
            · have H := H.2 hc
              refine EV_aload_n 0 d_Ter_join_92 rfl rfl ?_
              refine EV_iload 3 d_Ter_join_93 rfl ?_
              refine EV_iload 2 d_Ter_join_95 rfl ?_
              refine EV_callV (as := [vI r_8, vI r_5]) (st := []) d_Ter_join_97 k_809 k_811 kp_27 k_8 k_812 shC_19 rfl pd_128 ⟨by decide, by decide, Nat.le_of_ble_eq_true rfl⟩ rfl (ct_Ter_letStand H (fun te_15 H => ?_))
              refine EV_goto (tgt := 139) d_Ter_join_100 (by decide) ?_
              refine EV_lv (lv' := [(0, vR 19), (3, vI x3)]) [0, 1] rfl ?_
              exact ct_Ter_join_139 (fun x3 te' H => ih x3 te' H) H hK
          · have H := H.2 hc
            refine EV_aload_n 0 d_Ter_join_71 rfl rfl ?_
            refine EV_iload 2 d_Ter_join_72 rfl ?_
            refine EV_iload 3 d_Ter_join_74 rfl ?_
            refine EV_callV (as := [vI r_5, vI r_8]) (st := []) d_Ter_join_76 k_809 k_811 kp_27 k_8 k_812 shC_19 rfl pd_128 ⟨by decide, by decide, Nat.le_of_ble_eq_true rfl⟩ rfl (ct_Ter_letStand H (fun te_16 H => ?_))
            refine EV_goto (tgt := 139) d_Ter_join_79 (by decide) ?_
            refine EV_lv (lv' := [(0, vR 19), (3, vI x3)]) [0, 1] rfl ?_
            exact ct_Ter_join_139 (fun x3 te' H => ih x3 te' H) H hK
        · have H := H.2 hc
          refine EV_goto (tgt := 139) d_Ter_join_58 (by decide) ?_
          refine EV_lv (lv' := [(0, vR 19), (3, vI x3)]) [0, 1] rfl ?_
          exact ct_Ter_join_139 (fun x3 te' H => ih x3 te' H) H hK
theorem ct_Ter_join {l : Launch} {o0 o1 o2 o3 o4 o5 te o7 o8 o9 o10 : Ob} {x1 : Int} {x2 : Int} {K : Int → Ob → Prop} {K' : Option AV → List AC → Prop} (H : wp_Ter_join x1 x2 te K) (hK : ∀ (r : Int) (te' : Ob), K r te' → K' (some (vI r)) (shC o0 o1 o2 o3 o4 o5 te' o7 o8 o9 o10)) : MT l ⟨"PrunedSearch$Terms", "join", "(II)Z"⟩ prog_9_method_13_code 6 (some .boolean) 2 [vR 19, vI x1, vI x2] (shC o0 o1 o2 o3 o4 o5 te o7 o8 o9 o10) K' := by
  unfold wp_Ter_join at H
  refine MT_of (lv := [(0, vR 19), (1, vI x1), (2, vI x2)]) rfl rfl (Nat.le_of_ble_eq_true rfl) rfl ?_
  refine EV_aload_n 0 d_Ter_join_0 rfl rfl ?_
  refine EV_iconst d_Ter_join_1 ⟨by decide, by decide⟩ ?_
  refine EV_put (j := 9) d_Ter_join_2 shC_19 rfl fI6 fO6 fN6 (by decide) k_164 rfl rfl (fun ad => nf_int ad _) (Nat.le_of_ble_eq_true rfl) shC_19_9 ?_
  refine EV_aload_n 0 d_Ter_join_5 rfl rfl ?_
  refine EV_iload_n 1 d_Ter_join_6 rfl rfl ?_
  refine EV_callV (as := [vI x1]) (st := []) d_Ter_join_7 k_798 k_800 kp_25 k_8 k_801 shC_19 rfl pd_125 ⟨by decide, by decide, Nat.le_of_ble_eq_true rfl⟩ rfl (ct_Ter_push H (fun te_1 H => ?_))
  refine EV_aload_n 0 d_Ter_join_10 rfl rfl ?_
  refine EV_iload_n 2 d_Ter_join_11 rfl rfl ?_
  refine EV_callV (as := [vI x2]) (st := []) d_Ter_join_12 k_798 k_800 kp_25 k_8 k_801 shC_19 rfl pd_125 ⟨by decide, by decide, Nat.le_of_ble_eq_true rfl⟩ rfl (ct_Ter_push H (fun te_2 H => ?_))
  refine EV_iconst d_Ter_join_15 ⟨by decide, by decide⟩ ?_
  refine EV_istore_n (lv' := [(0, vR 19), (1, vI x1), (2, vI x2), (3, vI 0)]) [1, 2, 3, 0] d_Ter_join_16 rfl (by decide) rfl ?_
  refine EV_lv (lv' := [(0, vR 19), (3, vI 0)]) [0, 3] rfl ?_
  obtain ⟨n, H⟩ := H
  exact ct_Ter_join_17 hK n 0 te_2 H
theorem ct_Ter_mark {l : Launch} {o0 o1 o2 o3 o4 o5 te o7 o8 o9 o10 : Ob} {x1 : Int} {x2 : Int} {K : Ob → Prop} {K' : Option AV → List AC → Prop} (H : wp_Ter_mark x1 x2 te K) (hK : ∀ (te' : Ob), K te' → K' none (shC o0 o1 o2 o3 o4 o5 te' o7 o8 o9 o10)) : MT l ⟨"PrunedSearch$Terms", "mark", "(II)V"⟩ prog_9_method_17_code 3 none 0 [vR 19, vI x1, vI x2] (shC o0 o1 o2 o3 o4 o5 te o7 o8 o9 o10) K' := by
  unfold wp_Ter_mark at H
  refine MT_of (lv := [(0, vR 19), (1, vI x1), (2, vI x2)]) rfl rfl (Nat.le_of_ble_eq_true rfl) rfl ?_
  refine EV_iload_n 1 d_Ter_mark_0 rfl rfl ?_
  refine EV_if_lt (tgt := 19) d_Ter_mark_1 (by decide) (fun hc => ?_) (fun hc => ?_)
  · have H := H.1 hc
    exact EV_vret d_Ter_mark_19 rfl (hK _ H)
  · have H := H.2 hc
    refine EV_iload_n 1 d_Ter_mark_4 rfl rfl ?_
    refine EV_aload_n 0 d_Ter_mark_5 rfl rfl ?_
    refine EV_get (j := 7) d_Ter_mark_6 shC_19 rfl fI6 (by decide) k_162 rfl ?_
    refine EV_icmp_ge (tgt := 19) d_Ter_mark_9 (by decide) (fun hc => ?_) (fun hc => ?_)
    · have H := H.1 hc
      exact EV_vret d_Ter_mark_19 rfl (hK _ H)
    · have H := H.2 hc
      refine EV_aload_n 0 d_Ter_mark_12 rfl rfl ?_
      refine EV_get (j := 3) d_Ter_mark_13 shC_19 rfl fI6 (by decide) k_158 rfl ?_
      refine EV_iload_n 1 d_Ter_mark_16 rfl rfl ?_
      refine EV_iload_n 2 d_Ter_mark_17 rfl rfl ?_
      obtain ⟨hi, H⟩ := H
      refine EV_iast d_Ter_mark_18 shC_23 hi shC_23_s ?_
      exact EV_vret d_Ter_mark_19 rfl (hK _ H)
theorem ct_Ter_markAt {l : Launch} {o0 o1 o2 o3 o4 o5 te o7 o8 o9 o10 : Ob} {x1 : Int} {K : Int → Prop} {K' : Option AV → List AC → Prop} (H : wp_Ter_markAt x1 te K) (hK : ∀ (r : Int), K r → K' (some (vI r)) (shC o0 o1 o2 o3 o4 o5 te o7 o8 o9 o10)) : MT l ⟨"PrunedSearch$Terms", "markAt", "(I)I"⟩ prog_9_method_18_code 2 (some .int) 0 [vR 19, vI x1] (shC o0 o1 o2 o3 o4 o5 te o7 o8 o9 o10) K' := by
  unfold wp_Ter_markAt at H
  refine MT_of (lv := [(0, vR 19), (1, vI x1)]) rfl rfl (Nat.le_of_ble_eq_true rfl) rfl ?_
  refine EV_iload_n 1 d_Ter_markAt_0 rfl rfl ?_
  refine EV_if_lt (tgt := 21) d_Ter_markAt_1 (by decide) (fun hc => ?_) (fun hc => ?_)
  · have H := H.1 hc
    refine EV_iconst d_Ter_markAt_21 ⟨by decide, by decide⟩ ?_
    exact EV_iret d_Ter_markAt_22 rfl (nw_int _) (hK _ H)
  · have H := H.2 hc
    refine EV_iload_n 1 d_Ter_markAt_4 rfl rfl ?_
    refine EV_aload_n 0 d_Ter_markAt_5 rfl rfl ?_
    refine EV_get (j := 7) d_Ter_markAt_6 shC_19 rfl fI6 (by decide) k_162 rfl ?_
    refine EV_icmp_ge (tgt := 21) d_Ter_markAt_9 (by decide) (fun hc => ?_) (fun hc => ?_)
    · have H := H.1 hc
      refine EV_iconst d_Ter_markAt_21 ⟨by decide, by decide⟩ ?_
      exact EV_iret d_Ter_markAt_22 rfl (nw_int _) (hK _ H)
    · have H := H.2 hc
      refine EV_aload_n 0 d_Ter_markAt_12 rfl rfl ?_
      refine EV_get (j := 3) d_Ter_markAt_13 shC_19 rfl fI6 (by decide) k_158 rfl ?_
      refine EV_iload_n 1 d_Ter_markAt_16 rfl rfl ?_
      obtain ⟨hi, H⟩ := H
      refine EV_iald d_Ter_markAt_17 shC_23 hi ?_
      refine EV_goto (tgt := 22) d_Ter_markAt_18 (by decide) ?_
      exact EV_iret d_Ter_markAt_22 rfl (nw_int _) (hK _ H)
theorem ct_Ter_pushArguments_16 {l : Launch} {o0 o1 o2 o3 o4 o5 o7 o8 o9 o10 : Ob} {K : Ob → Prop} {K' : Option AV → List AC → Prop} (hK : ∀ (te' : Ob), K te' → K' none (shC o0 o1 o2 o3 o4 o5 te' o7 o8 o9 o10)) : ∀ (n : Nat) (x2 : Int) (x3 : Int) (x4 : Int) (te : Ob), Ter_pushArguments_16 n x2 x3 x4 te K → EV l prog_9_method_20_code "PrunedSearch$Terms" 5 none 1 16 [(0, vR 19), (2, vI x2), (3, vI x3), (4, vI x4)] [] (shC o0 o1 o2 o3 o4 o5 te o7 o8 o9 o10) K' := by
  intro n
  induction n with
  | zero =>
    intro x2 x3 x4 te H
    exact H.elim
  | succ n ih =>
    intro x2 x3 x4 te H
    refine EV_iload 3 d_Ter_pushArguments_16 rfl ?_
    refine EV_iload_n 1 d_Ter_pushArguments_18 rfl rfl ?_
    refine EV_icmp_ge (tgt := 41) d_Ter_pushArguments_19 (by decide) (fun hc => ?_) (fun hc => ?_)
    · have H := H.1 hc
      exact EV_vret d_Ter_pushArguments_41 rfl (hK _ H)
    · have H := H.2 hc
      refine EV_aload_n 0 d_Ter_pushArguments_22 rfl rfl ?_
      refine EV_iload_n 2 d_Ter_pushArguments_23 rfl rfl ?_
      refine EV_callV (as := [vI x3]) (st := []) d_Ter_pushArguments_24 k_798 k_800 kp_25 k_8 k_801 shC_19 rfl pd_125 ⟨by decide, by decide, Nat.le_of_ble_eq_true rfl⟩ rfl (ct_Ter_push H (fun te_3 H => ?_))
      refine EV_iload_n 2 d_Ter_pushArguments_27 rfl rfl ?_
      refine EV_aload_n 0 d_Ter_pushArguments_28 rfl rfl ?_
      refine EV_iload_n 2 d_Ter_pushArguments_29 rfl rfl ?_
      refine EV_callV (as := [vI x3]) (st := [vI x3]) d_Ter_pushArguments_30 k_818 k_677 k_678 k_8 k_679 shC_19 rfl pd_108 ⟨by decide, by decide, Nat.le_of_ble_eq_true rfl⟩ rfl (ct_Ter_sizeAt H (fun r_4 H => ?_))
      obtain ⟨hr, H⟩ := H
      refine EV_iadd d_Ter_pushArguments_33 hr ?_
      refine EV_istore_n (lv' := [(0, vR 19), (2, vI x2), (3, vI (x3 + r_4)), (4, vI x4)]) [1, 2, 0, 3] d_Ter_pushArguments_34 rfl (by decide) rfl ?_
      obtain ⟨hr, H⟩ := H
      refine EV_iinc (lv' := [(0, vR 19), (2, vI x2), (3, vI (x3 + r_4)), (4, vI (x4 + 1))]) 3 [1, 2, 3, 0] d_Ter_pushArguments_35 rfl (by decide) hr rfl ?_
      refine EV_goto (tgt := 16) d_Ter_pushArguments_38 (by decide) ?_
      exact ih x2 (x3 + r_4) (x4 + 1) te_3 H
theorem ct_Ter_pushArguments {l : Launch} {o0 o1 o2 o3 o4 o5 te o7 o8 o9 o10 : Ob} {x1 : Int} {K : Ob → Prop} {K' : Option AV → List AC → Prop} (H : wp_Ter_pushArguments x1 te K) (hK : ∀ (te' : Ob), K te' → K' none (shC o0 o1 o2 o3 o4 o5 te' o7 o8 o9 o10)) : MT l ⟨"PrunedSearch$Terms", "pushArguments", "(I)V"⟩ prog_9_method_20_code 5 none 1 [vR 19, vI x1] (shC o0 o1 o2 o3 o4 o5 te o7 o8 o9 o10) K' := by
  unfold wp_Ter_pushArguments at H
  refine MT_of (lv := [(0, vR 19), (1, vI x1)]) rfl rfl (Nat.le_of_ble_eq_true rfl) rfl ?_
  refine EV_aload_n 0 d_Ter_pushArguments_0 rfl rfl ?_
  refine EV_iload_n 1 d_Ter_pushArguments_1 rfl rfl ?_
  refine EV_callV (as := [vI x1]) (st := []) d_Ter_pushArguments_2 k_808 k_742 k_743 k_8 k_744 shC_19 rfl pd_126 ⟨by decide, by decide, Nat.le_of_ble_eq_true rfl⟩ rfl (ct_Ter_symbolAt H (fun r_1 H => ?_))
  refine EV_callN (as := [vI r_1]) (st := []) d_Ter_pushArguments_5 k_817 k_593 k_1 k_594 pd_84 ⟨by decide, by decide, Nat.le_of_ble_eq_true rfl⟩ rfl (ct_P_argumentsOf H (fun r_2 H => ?_))
  refine EV_istore_n (lv' := [(0, vR 19), (1, vI x1), (2, vI r_2)]) [1, 2, 0] d_Ter_pushArguments_8 rfl (by decide) rfl ?_
  refine EV_iload_n 1 d_Ter_pushArguments_9 rfl rfl ?_
  refine EV_iconst d_Ter_pushArguments_10 ⟨by decide, by decide⟩ ?_
  obtain ⟨hr, H⟩ := H
  refine EV_iadd d_Ter_pushArguments_11 hr ?_
  refine EV_istore_n (lv' := [(0, vR 19), (1, vI x1), (2, vI r_2), (3, vI (x1 + 1))]) [1, 2, 3, 0] d_Ter_pushArguments_12 rfl (by decide) rfl ?_
  refine EV_iconst d_Ter_pushArguments_13 ⟨by decide, by decide⟩ ?_
  refine EV_istore (lv' := [(0, vR 19), (1, vI x1), (2, vI r_2), (3, vI (x1 + 1)), (4, vI 0)]) [1, 2, 3, 4, 0] d_Ter_pushArguments_14 (by decide) rfl ?_
  refine EV_lv (lv' := [(0, vR 19), (2, vI r_2), (3, vI (x1 + 1)), (4, vI 0)]) [0, 2, 3, 4] rfl ?_
  obtain ⟨n, H⟩ := H
  exact ct_Ter_pushArguments_16 hK n r_2 (x1 + 1) 0 te H
theorem ct_Ter_isCircular_120 {l : Launch} {o0 o1 o2 o3 o4 o5 o7 o8 o9 o10 : Ob} {K : Int → Ob → Prop} {K' : Option AV → List AC → Prop} {L32 : Int → Int → Int → Ob → Prop} {x2 : Int} {x3 : Int} {x4 : Int} {te : Ob} (hL32 : ∀ (x2 : Int) (x3 : Int) (x4 : Int) (te : Ob), L32 x2 x3 x4 te → EV l prog_9_method_16_code "PrunedSearch$Terms" 7 (some .boolean) 2 32 [(0, vR 19), (2, vI x2), (3, vI x3), (4, vI x4)] [] (shC o0 o1 o2 o3 o4 o5 te o7 o8 o9 o10) K') (H : Ter_isCircular_120 L32 x2 x3 x4 te K) (hK : ∀ (r : Int) (te' : Ob), K r te' → K' (some (vI r)) (shC o0 o1 o2 o3 o4 o5 te' o7 o8 o9 o10)) : EV l prog_9_method_16_code "PrunedSearch$Terms" 7 (some .boolean) 2 120 [(0, vR 19), (2, vI x2), (3, vI x3), (4, vI x4)] [] (shC o0 o1 o2 o3 o4 o5 te o7 o8 o9 o10) K' := by
  obtain ⟨hr, H⟩ := H
  refine EV_iinc (lv' := [(0, vR 19), (2, vI x2), (3, vI x3), (4, vI (x4 + 1))]) 3 [1, 2, 3, 0] d_Ter_isCircular_120 rfl (by decide) hr rfl ?_
  refine EV_goto (tgt := 32) d_Ter_isCircular_123 (by decide) ?_
  exact hL32 x2 x3 (x4 + 1) te H
theorem ct_Ter_isCircular_32 {l : Launch} {o0 o1 o2 o3 o4 o5 o7 o8 o9 o10 : Ob} {K : Int → Ob → Prop} {K' : Option AV → List AC → Prop} (hK : ∀ (r : Int) (te' : Ob), K r te' → K' (some (vI r)) (shC o0 o1 o2 o3 o4 o5 te' o7 o8 o9 o10)) : ∀ (n : Nat) (x2 : Int) (x3 : Int) (x4 : Int) (te : Ob), Ter_isCircular_32 n x2 x3 x4 te K → EV l prog_9_method_16_code "PrunedSearch$Terms" 7 (some .boolean) 2 32 [(0, vR 19), (2, vI x2), (3, vI x3), (4, vI x4)] [] (shC o0 o1 o2 o3 o4 o5 te o7 o8 o9 o10) K' := by
  intro n
  induction n with
  | zero =>
    intro x2 x3 x4 te H
    exact H.elim
  | succ n ih =>
    intro x2 x3 x4 te H
    refine EV_iload 3 d_Ter_isCircular_32 rfl ?_
    refine EV_ldc (n := 1000000) d_Ter_isCircular_34 k_802 (by decide +kernel) ⟨by decide, by decide⟩ ?_
    refine EV_icmp_ge (tgt := 126) d_Ter_isCircular_36 (by decide) (fun hc => ?_) (fun hc => ?_)
    · have H := H.1 hc
      refine EV_iconst d_Ter_isCircular_126 ⟨by decide, by decide⟩ ?_
      exact EV_iret d_Ter_isCircular_127 rfl (nw_bool (by decide)) (hK _ _ H)
    · have H := H.2 hc
      refine EV_aload_n 0 d_Ter_isCircular_39 rfl rfl ?_
      refine EV_get (j := 9) d_Ter_isCircular_40 shC_19 rfl fI6 (by decide) k_164 rfl ?_
      refine EV_if_le (tgt := 126) d_Ter_isCircular_43 (by decide) (fun hc => ?_) (fun hc => ?_)
      · have H := H.1 hc
        refine EV_iconst d_Ter_isCircular_126 ⟨by decide, by decide⟩ ?_
        exact EV_iret d_Ter_isCircular_127 rfl (nw_bool (by decide)) (hK _ _ H)
      · have H := H.2 hc
        refine EV_aload_n 0 d_Ter_isCircular_46 rfl rfl ?_
        refine EV_callV (as := []) (st := []) d_Ter_isCircular_47 k_803 k_805 kp_26 k_8 k_806 shC_19 rfl pd_130 ⟨by decide, by decide, Nat.le_of_ble_eq_true rfl⟩ rfl (ct_Ter_pop H (fun r_3 te_2 H => ?_))
        refine EV_istore (lv' := [(0, vR 19), (2, vI x2), (3, vI x3), (4, vI x4), (5, vI r_3)]) [1, 2, 3, 4, 0] d_Ter_isCircular_50 (by decide) rfl ?_
        refine EV_iload 4 d_Ter_isCircular_52 rfl ?_
        refine EV_if_ge (tgt := 69) d_Ter_isCircular_54 (by decide) (fun hc => ?_) (fun hc => ?_)
        · have H := H.1 hc
          refine EV_aload_n 0 d_Ter_isCircular_69 rfl rfl ?_
          refine EV_iload 4 d_Ter_isCircular_70 rfl ?_
          refine EV_callV (as := [vI r_3]) (st := []) d_Ter_isCircular_72 k_807 k_761 k_762 k_8 k_763 shC_19 rfl pd_129 ⟨by decide, by decide, Nat.le_of_ble_eq_true rfl⟩ rfl (ct_Ter_standing H (fun r_4 H => ?_))
          refine EV_istore (lv' := [(0, vR 19), (2, vI x2), (3, vI x3), (4, vI x4), (5, vI r_3), (6, vI r_4)]) [1, 2, 3, 4, 5, 0] d_Ter_isCircular_75 (by decide) rfl ?_
          refine EV_aload_n 0 d_Ter_isCircular_77 rfl rfl ?_
          refine EV_iload 5 d_Ter_isCircular_78 rfl ?_
          refine EV_callV (as := [vI r_4]) (st := []) d_Ter_isCircular_80 k_827 k_829 kp_30 k_8 k_830 shC_19 rfl pd_133 ⟨by decide, by decide, Nat.le_of_ble_eq_true rfl⟩ rfl (ct_Ter_markAt H (fun r_5 H => ?_))
          refine EV_iload_n 1 d_Ter_isCircular_83 rfl rfl ?_
          refine EV_icmp_ne (tgt := 89) d_Ter_isCircular_84 (by decide) (fun hc => ?_) (fun hc => ?_)
          · have H := H.1 hc
            refine EV_aload_n 0 d_Ter_isCircular_89 rfl rfl ?_
            refine EV_iload 5 d_Ter_isCircular_90 rfl ?_
            refine EV_callV (as := [vI r_4]) (st := []) d_Ter_isCircular_92 k_827 k_829 kp_30 k_8 k_830 shC_19 rfl pd_133 ⟨by decide, by decide, Nat.le_of_ble_eq_true rfl⟩ rfl (ct_Ter_markAt H (fun r_6 H => ?_))
            refine EV_iload_n 2 d_Ter_isCircular_95 rfl rfl ?_
            refine EV_icmp_eq (tgt := 120) d_Ter_isCircular_96 (by decide) (fun hc => ?_) (fun hc => ?_)
            · have H := H.1 hc
              refine EV_lv (lv' := [(0, vR 19), (2, vI x2), (3, vI x3), (4, vI x4)]) [0, 1, 2, 3] rfl ?_
              exact ct_Ter_isCircular_120 (fun x2 x3 x4 te' H => ih x2 x3 x4 te' H) H hK
            · have H := H.2 hc
              refine EV_aload_n 0 d_Ter_isCircular_99 rfl rfl ?_
              refine EV_iload 5 d_Ter_isCircular_100 rfl ?_
              refine EV_iload_n 1 d_Ter_isCircular_102 rfl rfl ?_
              refine EV_callV (as := [vI r_4, vI x2]) (st := []) d_Ter_isCircular_103 k_823 k_825 kp_29 k_8 k_826 shC_19 rfl pd_132 ⟨by decide, by decide, Nat.le_of_ble_eq_true rfl⟩ rfl (ct_Ter_mark H (fun te_7 H => ?_))
              refine EV_aload_n 0 d_Ter_isCircular_106 rfl rfl ?_
              refine EV_iconst d_Ter_isCircular_107 ⟨by decide, by decide⟩ ?_
              refine EV_iload 5 d_Ter_isCircular_108 rfl ?_
              obtain ⟨hr, H⟩ := H
              refine EV_isub d_Ter_isCircular_110 hr ?_
              refine EV_callV (as := [vI ((-1) - r_4)]) (st := []) d_Ter_isCircular_111 k_798 k_800 kp_25 k_8 k_801 shC_19 rfl pd_125 ⟨by decide, by decide, Nat.le_of_ble_eq_true rfl⟩ rfl (ct_Ter_push H (fun te_8 H => ?_))
              refine EV_aload_n 0 d_Ter_isCircular_114 rfl rfl ?_
              refine EV_iload 5 d_Ter_isCircular_115 rfl ?_
              refine EV_callV (as := [vI r_4]) (st := []) d_Ter_isCircular_117 k_831 k_833 kp_31 k_8 k_834 shC_19 rfl pd_131 ⟨by decide, by decide, Nat.le_of_ble_eq_true rfl⟩ rfl (ct_Ter_pushArguments H (fun te_9 H => ?_))
              refine EV_lv (lv' := [(0, vR 19), (2, vI x2), (3, vI x3), (4, vI x4)]) [0, 1, 2, 3] rfl ?_
              exact ct_Ter_isCircular_120 (fun x2 x3 x4 te' H => ih x2 x3 x4 te' H) H hK
          · have H := H.2 hc
            refine EV_iconst d_Ter_isCircular_87 ⟨by decide, by decide⟩ ?_
            exact EV_iret d_Ter_isCircular_88 rfl (nw_bool (by decide)) (hK _ _ H)
        · have H := H.2 hc
          refine EV_aload_n 0 d_Ter_isCircular_57 rfl rfl ?_
          refine EV_iconst d_Ter_isCircular_58 ⟨by decide, by decide⟩ ?_
          refine EV_iload 4 d_Ter_isCircular_59 rfl ?_
          obtain ⟨hr, H⟩ := H
          refine EV_isub d_Ter_isCircular_61 hr ?_
          refine EV_iload_n 2 d_Ter_isCircular_62 rfl rfl ?_
          refine EV_callV (as := [vI ((-1) - r_3), vI x3]) (st := []) d_Ter_isCircular_63 k_823 k_825 kp_29 k_8 k_826 shC_19 rfl pd_132 ⟨by decide, by decide, Nat.le_of_ble_eq_true rfl⟩ rfl (ct_Ter_mark H (fun te_10 H => ?_))
          refine EV_goto (tgt := 120) d_Ter_isCircular_66 (by decide) ?_
          refine EV_lv (lv' := [(0, vR 19), (2, vI x2), (3, vI x3), (4, vI x4)]) [0, 1, 2, 3] rfl ?_
          exact ct_Ter_isCircular_120 (fun x2 x3 x4 te' H => ih x2 x3 x4 te' H) H hK
theorem ct_Ter_isCircular {l : Launch} {o0 o1 o2 o3 o4 o5 te o7 o8 o9 o10 : Ob} {x1 : Int} {K : Int → Ob → Prop} {K' : Option AV → List AC → Prop} (H : wp_Ter_isCircular x1 te K) (hK : ∀ (r : Int) (te' : Ob), K r te' → K' (some (vI r)) (shC o0 o1 o2 o3 o4 o5 te' o7 o8 o9 o10)) : MT l ⟨"PrunedSearch$Terms", "isCircular", "(I)Z"⟩ prog_9_method_16_code 7 (some .boolean) 2 [vR 19, vI x1] (shC o0 o1 o2 o3 o4 o5 te o7 o8 o9 o10) K' := by
  unfold wp_Ter_isCircular at H
  refine MT_of (lv := [(0, vR 19), (1, vI x1)]) rfl rfl (Nat.le_of_ble_eq_true rfl) rfl ?_
  refine EV_aload_n 0 d_Ter_isCircular_0 rfl rfl ?_
  refine EV_get (j := 10) d_Ter_isCircular_1 shC_19 rfl fI6 (by decide) k_165 rfl ?_
  refine EV_iconst d_Ter_isCircular_4 ⟨by decide, by decide⟩ ?_
  obtain ⟨hr, H⟩ := H
  refine EV_iadd d_Ter_isCircular_5 hr ?_
  refine EV_istore_n (lv' := [(0, vR 19), (1, vI x1), (2, vI ((te.1 3) + 1))]) [1, 2, 0] d_Ter_isCircular_6 rfl (by decide) rfl ?_
  refine EV_aload_n 0 d_Ter_isCircular_7 rfl rfl ?_
  refine EV_get (j := 10) d_Ter_isCircular_8 shC_19 rfl fI6 (by decide) k_165 rfl ?_
  refine EV_iconst d_Ter_isCircular_11 ⟨by decide, by decide⟩ ?_
  obtain ⟨hr, H⟩ := H
  refine EV_iadd d_Ter_isCircular_12 hr ?_
  refine EV_istore_n (lv' := [(0, vR 19), (1, vI x1), (2, vI ((te.1 3) + 1)), (3, vI ((te.1 3) + 2))]) [1, 2, 3, 0] d_Ter_isCircular_13 rfl (by decide) rfl ?_
  refine EV_aload_n 0 d_Ter_isCircular_14 rfl rfl ?_
  refine EV_iload_n 3 d_Ter_isCircular_15 rfl rfl ?_
  refine EV_put (j := 10) d_Ter_isCircular_16 shC_19 rfl fI6 fO6 fN6 (by decide) k_165 rfl rfl (fun ad => nf_int ad _) (Nat.le_of_ble_eq_true rfl) shC_19_10 ?_
  refine EV_aload_n 0 d_Ter_isCircular_19 rfl rfl ?_
  refine EV_iconst d_Ter_isCircular_20 ⟨by decide, by decide⟩ ?_
  refine EV_put (j := 9) d_Ter_isCircular_21 shC_19 rfl fI6 fO6 fN6 (by decide) k_164 rfl rfl (fun ad => nf_int ad _) (Nat.le_of_ble_eq_true rfl) shC_19_9 ?_
  refine EV_aload_n 0 d_Ter_isCircular_24 rfl rfl ?_
  refine EV_iload_n 1 d_Ter_isCircular_25 rfl rfl ?_
  refine EV_callV (as := [vI x1]) (st := []) d_Ter_isCircular_26 k_798 k_800 kp_25 k_8 k_801 shC_19 rfl pd_125 ⟨by decide, by decide, Nat.le_of_ble_eq_true rfl⟩ rfl (ct_Ter_push H (fun te_1 H => ?_))
  refine EV_iconst d_Ter_isCircular_29 ⟨by decide, by decide⟩ ?_
  refine EV_istore (lv' := [(0, vR 19), (1, vI x1), (2, vI ((te.1 3) + 1)), (3, vI ((te.1 3) + 2)), (4, vI 0)]) [1, 2, 3, 4, 0] d_Ter_isCircular_30 (by decide) rfl ?_
  refine EV_lv (lv' := [(0, vR 19), (2, vI ((te.1 3) + 1)), (3, vI ((te.1 3) + 2)), (4, vI 0)]) [0, 2, 3, 4] rfl ?_
  obtain ⟨n, H⟩ := H
  exact ct_Ter_isCircular_32 hK n ((te.1 3) + 1) ((te.1 3) + 2) 0 te_1 H
theorem ct_Ter_countSymbols_12 {l : Launch} {o0 o1 o2 o3 o4 o5 o7 o8 o9 o10 : Ob} {K : Int → Ob → Prop} {K' : Option AV → List AC → Prop} (hK : ∀ (r : Int) (te' : Ob), K r te' → K' (some (vI r)) (shC o0 o1 o2 o3 o4 o5 te' o7 o8 o9 o10)) : ∀ (n : Nat) (x2 : Int) (x3 : Int) (te : Ob), Ter_countSymbols_12 n x2 x3 te K → EV l prog_9_method_19_code "PrunedSearch$Terms" 4 (some .int) 2 12 [(0, vR 19), (2, vI x2), (3, vI x3)] [] (shC o0 o1 o2 o3 o4 o5 te o7 o8 o9 o10) K' := by
  intro n
  induction n with
  | zero =>
    intro x2 x3 te H
    exact H.elim
  | succ n ih =>
    intro x2 x3 te H
    refine EV_iload_n 2 d_Ter_countSymbols_12 rfl rfl ?_
    refine EV_iload_n 1 d_Ter_countSymbols_13 rfl rfl ?_
    refine EV_icmp_gt (tgt := 42) d_Ter_countSymbols_14 (by decide) (fun hc => ?_) (fun hc => ?_)
    · have H := H.1 hc
      refine EV_iload_n 2 d_Ter_countSymbols_42 rfl rfl ?_
      exact EV_iret d_Ter_countSymbols_43 rfl (nw_int _) (hK _ _ H)
    · have H := H.2 hc
      refine EV_aload_n 0 d_Ter_countSymbols_17 rfl rfl ?_
      refine EV_get (j := 9) d_Ter_countSymbols_18 shC_19 rfl fI6 (by decide) k_164 rfl ?_
      refine EV_if_le (tgt := 42) d_Ter_countSymbols_21 (by decide) (fun hc => ?_) (fun hc => ?_)
      · have H := H.1 hc
        refine EV_iload_n 2 d_Ter_countSymbols_42 rfl rfl ?_
        exact EV_iret d_Ter_countSymbols_43 rfl (nw_int _) (hK _ _ H)
      · have H := H.2 hc
        refine EV_aload_n 0 d_Ter_countSymbols_24 rfl rfl ?_
        refine EV_aload_n 0 d_Ter_countSymbols_25 rfl rfl ?_
        refine EV_aload_n 0 d_Ter_countSymbols_26 rfl rfl ?_
        refine EV_callV (as := []) (st := [vR 19, vR 19]) d_Ter_countSymbols_27 k_803 k_805 kp_26 k_8 k_806 shC_19 rfl pd_130 ⟨by decide, by decide, Nat.le_of_ble_eq_true rfl⟩ rfl (ct_Ter_pop H (fun r_3 te_2 H => ?_))
        refine EV_callV (as := [vI r_3]) (st := [vR 19]) d_Ter_countSymbols_30 k_807 k_761 k_762 k_8 k_763 shC_19 rfl pd_129 ⟨by decide, by decide, Nat.le_of_ble_eq_true rfl⟩ rfl (ct_Ter_standing H (fun r_4 H => ?_))
        refine EV_callV (as := [vI r_4]) (st := []) d_Ter_countSymbols_33 k_831 k_833 kp_31 k_8 k_834 shC_19 rfl pd_131 ⟨by decide, by decide, Nat.le_of_ble_eq_true rfl⟩ rfl (ct_Ter_pushArguments H (fun te_5 H => ?_))
        obtain ⟨hr, H⟩ := H
        refine EV_iinc (lv' := [(0, vR 19), (2, vI x2), (3, vI (x3 + 1))]) 2 [1, 2, 0] d_Ter_countSymbols_36 rfl (by decide) hr rfl ?_
        refine EV_goto (tgt := 12) d_Ter_countSymbols_39 (by decide) ?_
        exact ih x2 (x3 + 1) te_5 H
theorem ct_Ter_countSymbols {l : Launch} {o0 o1 o2 o3 o4 o5 te o7 o8 o9 o10 : Ob} {x1 : Int} {x2 : Int} {K : Int → Ob → Prop} {K' : Option AV → List AC → Prop} (H : wp_Ter_countSymbols x1 x2 te K) (hK : ∀ (r : Int) (te' : Ob), K r te' → K' (some (vI r)) (shC o0 o1 o2 o3 o4 o5 te' o7 o8 o9 o10)) : MT l ⟨"PrunedSearch$Terms", "countSymbols", "(II)I"⟩ prog_9_method_19_code 4 (some .int) 2 [vR 19, vI x1, vI x2] (shC o0 o1 o2 o3 o4 o5 te o7 o8 o9 o10) K' := by
  unfold wp_Ter_countSymbols at H
  refine MT_of (lv := [(0, vR 19), (1, vI x1), (2, vI x2)]) rfl rfl (Nat.le_of_ble_eq_true rfl) rfl ?_
  refine EV_iconst d_Ter_countSymbols_0 ⟨by decide, by decide⟩ ?_
  refine EV_istore_n (lv' := [(0, vR 19), (1, vI x1), (2, vI x2), (3, vI 0)]) [1, 2, 3, 0] d_Ter_countSymbols_1 rfl (by decide) rfl ?_
  refine EV_aload_n 0 d_Ter_countSymbols_2 rfl rfl ?_
  refine EV_iconst d_Ter_countSymbols_3 ⟨by decide, by decide⟩ ?_
  refine EV_put (j := 9) d_Ter_countSymbols_4 shC_19 rfl fI6 fO6 fN6 (by decide) k_164 rfl rfl (fun ad => nf_int ad _) (Nat.le_of_ble_eq_true rfl) shC_19_9 ?_
  refine EV_aload_n 0 d_Ter_countSymbols_7 rfl rfl ?_
  refine EV_iload_n 1 d_Ter_countSymbols_8 rfl rfl ?_
  refine EV_callV (as := [vI x1]) (st := []) d_Ter_countSymbols_9 k_798 k_800 kp_25 k_8 k_801 shC_19 rfl pd_125 ⟨by decide, by decide, Nat.le_of_ble_eq_true rfl⟩ rfl (ct_Ter_push H (fun te_1 H => ?_))
  refine EV_lv (lv' := [(0, vR 19), (2, vI x2), (3, vI 0)]) [0, 2, 3] rfl ?_
  obtain ⟨n, H⟩ := H
  exact ct_Ter_countSymbols_12 hK n x2 0 te_1 H
theorem ct_Sea_isLarge_99 {l : Launch} {o0 o1 o2 o3 o4 o5 go o8 se o10 : Ob} {K : Int → Ob → Prop} {K' : Option AV → List AC → Prop} {x1 : Int} {te : Ob} (H : Sea_isLarge_99 x1 te go se K) (hK : ∀ (r : Int) (te' : Ob), K r te' → K' (some (vI r)) (shC o0 o1 o2 o3 o4 o5 te' go o8 se o10)) : EV l prog_7_method_11_code "PrunedSearch$Search" 4 (some .boolean) 3 99 [(1, vI x1)] [] (shC o0 o1 o2 o3 o4 o5 te go o8 se o10) K' := by
  refine EV_iload_n 0 d_Sea_isLarge_99 rfl rfl ?_
  refine EV_if_ge (tgt := 107) d_Sea_isLarge_100 (by decide) (fun hc => ?_) (fun hc => ?_)
  · have H := H.1 hc
    refine EV_iconst d_Sea_isLarge_107 ⟨by decide, by decide⟩ ?_
    exact EV_iret d_Sea_isLarge_108 rfl (nw_bool (by decide)) (hK _ _ H)
  · have H := H.2 hc
    refine EV_iconst d_Sea_isLarge_103 ⟨by decide, by decide⟩ ?_
    refine EV_goto (tgt := 108) d_Sea_isLarge_104 (by decide) ?_
    exact EV_iret d_Sea_isLarge_108 rfl (nw_bool (by decide)) (hK _ _ H)
theorem ct_Sea_isLarge_64 {l : Launch} {o0 o1 o2 o3 o4 o5 go o8 se o10 : Ob} {K : Int → Ob → Prop} {K' : Option AV → List AC → Prop} (hK : ∀ (r : Int) (te' : Ob), K r te' → K' (some (vI r)) (shC o0 o1 o2 o3 o4 o5 te' go o8 se o10)) : ∀ (n : Nat) (x1 : Int) (x3 : Int) (te : Ob), Sea_isLarge_64 n x1 x3 te go se K → EV l prog_7_method_11_code "PrunedSearch$Search" 4 (some .boolean) 3 64 [(0, vR 38), (1, vI x1), (3, vI x3)] [] (shC o0 o1 o2 o3 o4 o5 te go o8 se o10) K' := by
  intro n
  induction n with
  | zero =>
    intro x1 x3 te H
    exact H.elim
  | succ n ih =>
    intro x1 x3 te H
    refine EV_iload_n 2 d_Sea_isLarge_64 rfl rfl ?_
    refine EV_aload_n 0 d_Sea_isLarge_65 rfl rfl ?_
    refine EV_get (j := 7) d_Sea_isLarge_66 shC_38 rfl fI9 (by decide) k_283 rfl ?_
    refine EV_icmp_ge (tgt := 99) d_Sea_isLarge_69 (by decide) (fun hc => ?_) (fun hc => ?_)
    · have H := H.1 hc
      refine EV_lv (lv' := [(1, vI x1)]) [1] rfl ?_
      exact ct_Sea_isLarge_99 H hK
    · have H := H.2 hc
      refine EV_iload_n 1 d_Sea_isLarge_72 rfl rfl ?_
      refine EV_if_lt (tgt := 99) d_Sea_isLarge_73 (by decide) (fun hc => ?_) (fun hc => ?_)
      · have H := H.1 hc
        refine EV_lv (lv' := [(1, vI x1)]) [1] rfl ?_
        exact ct_Sea_isLarge_99 H hK
      · have H := H.2 hc
        refine EV_iload_n 1 d_Sea_isLarge_76 rfl rfl ?_
        refine EV_aload_n 0 d_Sea_isLarge_77 rfl rfl ?_
        refine EV_get (j := 2) d_Sea_isLarge_78 shC_38 rfl fI9 (by decide) k_278 rfl ?_
        refine EV_aload_n 0 d_Sea_isLarge_81 rfl rfl ?_
        refine EV_get (j := 6) d_Sea_isLarge_82 shC_38 rfl fI9 (by decide) k_282 rfl ?_
        refine EV_iload_n 2 d_Sea_isLarge_85 rfl rfl ?_
        obtain ⟨hi, H⟩ := H
        refine EV_iald d_Sea_isLarge_86 shC_39 hi ?_
        refine EV_iload_n 1 d_Sea_isLarge_87 rfl rfl ?_
        refine EV_callV (as := [vI (se.2.1 0 x3), vI x1]) (st := [vI x1]) d_Sea_isLarge_88 k_840 k_841 k_842 k_8 k_843 shC_19 rfl pd_134 ⟨by decide, by decide, Nat.le_of_ble_eq_true rfl⟩ rfl (ct_Ter_countSymbols H (fun r_3 te_2 H => ?_))
        obtain ⟨hr, H⟩ := H
        refine EV_isub d_Sea_isLarge_91 hr ?_
        refine EV_istore_n (lv' := [(0, vR 38), (1, vI (x1 - r_3)), (3, vI x3)]) [1, 0, 2] d_Sea_isLarge_92 rfl (by decide) rfl ?_
        obtain ⟨hr, H⟩ := H
        refine EV_iinc (lv' := [(0, vR 38), (1, vI (x1 - r_3)), (3, vI (x3 + 1))]) 2 [1, 2, 0] d_Sea_isLarge_93 rfl (by decide) hr rfl ?_
        refine EV_goto (tgt := 64) d_Sea_isLarge_96 (by decide) ?_
        exact ih (x1 - r_3) (x3 + 1) te_2 H
theorem ct_Sea_isLarge_62 {l : Launch} {o0 o1 o2 o3 o4 o5 go o8 se o10 : Ob} {K : Int → Ob → Prop} {K' : Option AV → List AC → Prop} {x1 : Int} {te : Ob} (H : Sea_isLarge_62 x1 te go se K) (hK : ∀ (r : Int) (te' : Ob), K r te' → K' (some (vI r)) (shC o0 o1 o2 o3 o4 o5 te' go o8 se o10)) : EV l prog_7_method_11_code "PrunedSearch$Search" 4 (some .boolean) 3 62 [(0, vR 38), (1, vI x1)] [] (shC o0 o1 o2 o3 o4 o5 te go o8 se o10) K' := by
  refine EV_iconst d_Sea_isLarge_62 ⟨by decide, by decide⟩ ?_
  refine EV_istore_n (lv' := [(0, vR 38), (1, vI x1), (3, vI 0)]) [1, 2, 0] d_Sea_isLarge_63 rfl (by decide) rfl ?_
  obtain ⟨n, H⟩ := H
  exact ct_Sea_isLarge_64 hK n x1 0 te H
theorem ct_Sea_isLarge_13 {l : Launch} {o0 o1 o2 o3 o4 o5 go o8 se o10 : Ob} {K : Int → Ob → Prop} {K' : Option AV → List AC → Prop} (hK : ∀ (r : Int) (te' : Ob), K r te' → K' (some (vI r)) (shC o0 o1 o2 o3 o4 o5 te' go o8 se o10)) : ∀ (n : Nat) (x1 : Int) (x2 : Int) (x3 : Int) (te : Ob), Sea_isLarge_13 n x1 x2 x3 te go se K → EV l prog_7_method_11_code "PrunedSearch$Search" 4 (some .boolean) 3 13 [(0, vR 38), (1, vI x1), (2, vI x2), (3, vI x3)] [] (shC o0 o1 o2 o3 o4 o5 te go o8 se o10) K' := by
  intro n
  induction n with
  | zero =>
    intro x1 x2 x3 te H
    exact H.elim
  | succ n ih =>
    intro x1 x2 x3 te H
    refine EV_iload_n 3 d_Sea_isLarge_13 rfl rfl ?_
    refine EV_bipush d_Sea_isLarge_14 (by decide +kernel) ⟨by decide, by decide⟩ ?_
    refine EV_icmp_gt (tgt := 62) d_Sea_isLarge_16 (by decide) (fun hc => ?_) (fun hc => ?_)
    · have H := H.1 hc
      refine EV_lv (lv' := [(0, vR 38), (1, vI x1)]) [0, 1] rfl ?_
      exact ct_Sea_isLarge_62 H hK
    · have H := H.2 hc
      refine EV_iload_n 1 d_Sea_isLarge_19 rfl rfl ?_
      refine EV_if_lt (tgt := 62) d_Sea_isLarge_20 (by decide) (fun hc => ?_) (fun hc => ?_)
      · have H := H.1 hc
        refine EV_lv (lv' := [(0, vR 38), (1, vI x1)]) [0, 1] rfl ?_
        exact ct_Sea_isLarge_62 H hK
      · have H := H.2 hc
        refine EV_iload_n 2 d_Sea_isLarge_23 rfl rfl ?_
        refine EV_iconst d_Sea_isLarge_24 ⟨by decide, by decide⟩ ?_
        refine EV_icmp_eq (tgt := 62) d_Sea_isLarge_25 (by decide) (fun hc => ?_) (fun hc => ?_)
        · have H := H.1 hc
          refine EV_lv (lv' := [(0, vR 38), (1, vI x1)]) [0, 1] rfl ?_
          exact ct_Sea_isLarge_62 H hK
        · have H := H.2 hc
          refine EV_iload_n 1 d_Sea_isLarge_28 rfl rfl ?_
          refine EV_aload_n 0 d_Sea_isLarge_29 rfl rfl ?_
          refine EV_get (j := 2) d_Sea_isLarge_30 shC_38 rfl fI9 (by decide) k_278 rfl ?_
          refine EV_aload_n 0 d_Sea_isLarge_33 rfl rfl ?_
          refine EV_get (j := 3) d_Sea_isLarge_34 shC_38 rfl fI9 (by decide) k_279 rfl ?_
          refine EV_iload_n 2 d_Sea_isLarge_37 rfl rfl ?_
          refine EV_callV (as := [vI x2]) (st := [vR 19, vI x1]) d_Sea_isLarge_38 k_715 k_716 k_717 k_9 k_718 shC_27 rfl pd_121 ⟨by decide, by decide, Nat.le_of_ble_eq_true rfl⟩ rfl (ct_Goa_termOf H (fun r_4 H => ?_))
          refine EV_iload_n 1 d_Sea_isLarge_41 rfl rfl ?_
          refine EV_callV (as := [vI r_4, vI x1]) (st := [vI x1]) d_Sea_isLarge_42 k_840 k_841 k_842 k_8 k_843 shC_19 rfl pd_134 ⟨by decide, by decide, Nat.le_of_ble_eq_true rfl⟩ rfl (ct_Ter_countSymbols H (fun r_6 te_5 H => ?_))
          obtain ⟨hr, H⟩ := H
          refine EV_isub d_Sea_isLarge_45 hr ?_
          refine EV_istore_n (lv' := [(0, vR 38), (1, vI (x1 - r_6)), (2, vI x2), (3, vI x3)]) [1, 0, 2, 3] d_Sea_isLarge_46 rfl (by decide) rfl ?_
          refine EV_aload_n 0 d_Sea_isLarge_47 rfl rfl ?_
          refine EV_get (j := 3) d_Sea_isLarge_48 shC_38 rfl fI9 (by decide) k_279 rfl ?_
          refine EV_iload_n 2 d_Sea_isLarge_51 rfl rfl ?_
          refine EV_callV (as := [vI x2]) (st := []) d_Sea_isLarge_52 k_844 k_724 k_725 k_9 k_726 shC_27 rfl pd_115 ⟨by decide, by decide, Nat.le_of_ble_eq_true rfl⟩ rfl (ct_Goa_after H (fun r_7 H => ?_))
          refine EV_istore_n (lv' := [(0, vR 38), (1, vI (x1 - r_6)), (2, vI r_7), (3, vI x3)]) [1, 2, 0, 3] d_Sea_isLarge_55 rfl (by decide) rfl ?_
          obtain ⟨hr, H⟩ := H
          refine EV_iinc (lv' := [(0, vR 38), (1, vI (x1 - r_6)), (2, vI r_7), (3, vI (x3 + 1))]) 3 [1, 2, 3, 0] d_Sea_isLarge_56 rfl (by decide) hr rfl ?_
          refine EV_goto (tgt := 13) d_Sea_isLarge_59 (by decide) ?_
          exact ih (x1 - r_6) r_7 (x3 + 1) te_5 H
theorem ct_Sea_isLarge {l : Launch} {o0 o1 o2 o3 o4 o5 te go o8 se o10 : Ob} {K : Int → Ob → Prop} {K' : Option AV → List AC → Prop} (H : wp_Sea_isLarge te go se K) (hK : ∀ (r : Int) (te' : Ob), K r te' → K' (some (vI r)) (shC o0 o1 o2 o3 o4 o5 te' go o8 se o10)) : MT l ⟨"PrunedSearch$Search", "isLarge", "()Z"⟩ prog_7_method_11_code 4 (some .boolean) 3 [vR 38] (shC o0 o1 o2 o3 o4 o5 te go o8 se o10) K' := by
  unfold wp_Sea_isLarge at H
  refine MT_of (lv := [(0, vR 38)]) rfl rfl (Nat.le_of_ble_eq_true rfl) rfl ?_
  refine EV_bipush d_Sea_isLarge_0 (by decide +kernel) ⟨by decide, by decide⟩ ?_
  refine EV_istore_n (lv' := [(0, vR 38), (1, vI 120)]) [1, 0] d_Sea_isLarge_2 rfl (by decide) rfl ?_
  refine EV_aload_n 0 d_Sea_isLarge_3 rfl rfl ?_
  refine EV_get (j := 3) d_Sea_isLarge_4 shC_38 rfl fI9 (by decide) k_279 rfl ?_
  refine EV_callV (as := []) (st := []) d_Sea_isLarge_7 k_711 k_712 k_713 k_9 k_714 shC_27 rfl pd_122 ⟨by decide, by decide, Nat.le_of_ble_eq_true rfl⟩ rfl (ct_Goa_first H (fun r_1 H => ?_))
  refine EV_istore_n (lv' := [(0, vR 38), (1, vI 120), (2, vI r_1)]) [1, 2, 0] d_Sea_isLarge_10 rfl (by decide) rfl ?_
  refine EV_iconst d_Sea_isLarge_11 ⟨by decide, by decide⟩ ?_
  refine EV_istore_n (lv' := [(0, vR 38), (1, vI 120), (2, vI r_1), (3, vI 0)]) [1, 2, 3, 0] d_Sea_isLarge_12 rfl (by decide) rfl ?_
  obtain ⟨n, H⟩ := H
  exact ct_Sea_isLarge_13 hK n 120 r_1 0 te H
theorem ct_Sea_resolve_62 {l : Launch} {o0 o1 o2 pr o4 o5 o8 o10 : Ob} {K : Ob → Ob → Ob → Prop} {K' : Option AV → List AC → Prop} {te go se : Ob} (H : Sea_resolve_62 pr te go se K) (hK : ∀ (te' go' se' : Ob), K te' go' se' → K' none (shC o0 o1 o2 pr o4 o5 te' go' o8 se' o10)) : EV l prog_7_method_10_code "PrunedSearch$Search" 3 none 4 62 [(0, vR 38)] [] (shC o0 o1 o2 pr o4 o5 te go o8 se o10) K' := by
  refine EV_aload_n 0 d_Sea_resolve_62 rfl rfl ?_
  refine EV_iconst d_Sea_resolve_63 ⟨by decide, by decide⟩ ?_
  refine EV_put (j := 9) d_Sea_resolve_64 shC_38 rfl fI9 fO9 fN9 (by decide) k_285 rfl rfl (fun ad => nf_bool ad (by decide)) (Nat.le_of_ble_eq_true rfl) shC_38_9 ?_
  exact EV_vret d_Sea_resolve_67 rfl (hK _ _ _ H)
theorem ct_Sea_resolve {l : Launch} {o0 o1 o2 pr o4 o5 te go o8 se o10 : Ob} {x1 : Int} {K : Ob → Ob → Ob → Prop} {K' : Option AV → List AC → Prop} (H : wp_Sea_resolve x1 pr te go se K) (hK : ∀ (te' go' se' : Ob), K te' go' se' → K' none (shC o0 o1 o2 pr o4 o5 te' go' o8 se' o10)) : MT l ⟨"PrunedSearch$Search", "resolve", "(I)V"⟩ prog_7_method_10_code 3 none 4 [vR 38, vI x1] (shC o0 o1 o2 pr o4 o5 te go o8 se o10) K' := by
  unfold wp_Sea_resolve at H
  refine MT_of (lv := [(0, vR 38), (1, vI x1)]) rfl rfl (Nat.le_of_ble_eq_true rfl) rfl ?_
  refine EV_aload_n 0 d_Sea_resolve_0 rfl rfl ?_
  refine EV_dup d_Sea_resolve_1 rfl ?_
  refine EV_get (j := 10) d_Sea_resolve_2 shC_38 rfl fI9 (by decide) k_286 rfl ?_
  refine EV_iconst d_Sea_resolve_5 ⟨by decide, by decide⟩ ?_
  obtain ⟨hr, H⟩ := H
  refine EV_iadd d_Sea_resolve_6 hr ?_
  refine EV_put (j := 10) d_Sea_resolve_7 shC_38 rfl fI9 fO9 fN9 (by decide) k_286 rfl rfl (fun ad => nf_int ad _) (Nat.le_of_ble_eq_true rfl) shC_38_10 ?_
  refine EV_aload_n 0 d_Sea_resolve_10 rfl rfl ?_
  refine EV_dup d_Sea_resolve_11 rfl ?_
  refine EV_get (j := 11) d_Sea_resolve_12 shC_38 rfl fI9 (by decide) k_287 rfl ?_
  refine EV_iconst d_Sea_resolve_15 ⟨by decide, by decide⟩ ?_
  obtain ⟨hr, H⟩ := H
  refine EV_iadd d_Sea_resolve_16 hr ?_
  refine EV_put (j := 11) d_Sea_resolve_17 shC_38 rfl fI9 fO9 fN9 (by decide) k_287 rfl rfl (fun ad => nf_int ad _) (Nat.le_of_ble_eq_true rfl) shC_38_11 ?_
  refine EV_aload_n 0 d_Sea_resolve_20 rfl rfl ?_
  refine EV_get (j := 2) d_Sea_resolve_21 shC_38 rfl fI9 (by decide) k_278 rfl ?_
  refine EV_aload_n 0 d_Sea_resolve_24 rfl rfl ?_
  refine EV_get (j := 0) d_Sea_resolve_25 shC_38 rfl fI9 (by decide) k_276 rfl ?_
  refine EV_iload_n 1 d_Sea_resolve_28 rfl rfl ?_
  refine EV_callV (as := [vR 9, vI x1]) (st := []) d_Sea_resolve_29 k_650 k_651 k_652 k_8 k_653 shC_19 rfl pd_112 ⟨by decide, by decide, Nat.le_of_ble_eq_true rfl⟩ rfl (ct_Ter_copy_p H (fun r_2 te_1 H => ?_))
  refine EV_istore_n (lv' := [(0, vR 38), (1, vI x1), (2, vI r_2)]) [1, 2, 0] d_Sea_resolve_32 rfl (by decide) rfl ?_
  refine EV_aload_n 0 d_Sea_resolve_33 rfl rfl ?_
  refine EV_get (j := 2) d_Sea_resolve_34 shC_38 rfl fI9 (by decide) k_278 rfl ?_
  refine EV_aload_n 0 d_Sea_resolve_37 rfl rfl ?_
  refine EV_get (j := 12) d_Sea_resolve_38 shC_38 rfl fI9 (by decide) k_288 rfl ?_
  refine EV_iload_n 2 d_Sea_resolve_41 rfl rfl ?_
  refine EV_callV (as := [vI (se.1 5), vI r_2]) (st := []) d_Sea_resolve_42 k_794 k_795 k_796 k_8 k_797 shC_19 rfl pd_137 ⟨by decide, by decide, Nat.le_of_ble_eq_true rfl⟩ rfl (ct_Ter_join H (fun r_4 te_3 H => ?_))
  refine EV_if_eq (tgt := 62) d_Sea_resolve_45 (by decide) (fun hc => ?_) (fun hc => ?_)
  · have H := H.1 hc
    refine EV_lv (lv' := [(0, vR 38)]) [0] rfl ?_
    exact ct_Sea_resolve_62 H hK
  · have H := H.2 hc
    refine EV_aload_n 0 d_Sea_resolve_48 rfl rfl ?_
    refine EV_get (j := 2) d_Sea_resolve_49 shC_38 rfl fI9 (by decide) k_278 rfl ?_
    refine EV_aload_n 0 d_Sea_resolve_52 rfl rfl ?_
    refine EV_get (j := 12) d_Sea_resolve_53 shC_38 rfl fI9 (by decide) k_288 rfl ?_
    refine EV_callV (as := [vI (se.1 5)]) (st := []) d_Sea_resolve_56 k_819 k_820 k_821 k_8 k_822 shC_19 rfl pd_136 ⟨by decide, by decide, Nat.le_of_ble_eq_true rfl⟩ rfl (ct_Ter_isCircular H (fun r_6 te_5 H => ?_))
    refine EV_if_eq (tgt := 68) d_Sea_resolve_59 (by decide) (fun hc => ?_) (fun hc => ?_)
    · have H := H.1 hc
      refine EV_aload_n 0 d_Sea_resolve_68 rfl rfl ?_
      refine EV_get (j := 3) d_Sea_resolve_69 shC_38 rfl fI9 (by decide) k_279 rfl ?_
      refine EV_aload_n 0 d_Sea_resolve_72 rfl rfl ?_
      refine EV_get (j := 2) d_Sea_resolve_73 shC_38 rfl fI9 (by decide) k_278 rfl ?_
      refine EV_iload_n 2 d_Sea_resolve_76 rfl rfl ?_
      refine EV_aload_n 0 d_Sea_resolve_77 rfl rfl ?_
      refine EV_get (j := 2) d_Sea_resolve_78 shC_38 rfl fI9 (by decide) k_278 rfl ?_
      refine EV_iload_n 2 d_Sea_resolve_81 rfl rfl ?_
      refine EV_callV (as := [vI r_2]) (st := [vI r_2, vR 19, vR 27]) d_Sea_resolve_82 k_835 k_677 k_678 k_8 k_679 shC_19 rfl pd_108 ⟨by decide, by decide, Nat.le_of_ble_eq_true rfl⟩ rfl (ct_Ter_sizeAt H (fun r_7 H => ?_))
      obtain ⟨hr, H⟩ := H
      refine EV_iadd d_Sea_resolve_85 hr ?_
      refine EV_aload_n 0 d_Sea_resolve_86 rfl rfl ?_
      refine EV_get (j := 2) d_Sea_resolve_87 shC_38 rfl fI9 (by decide) k_278 rfl ?_
      refine EV_callV (as := []) (st := [vI (r_2 + r_7), vR 19, vR 27]) d_Sea_resolve_90 k_668 k_669 k_670 k_8 k_671 shC_19 rfl pd_111 ⟨by decide, by decide, Nat.le_of_ble_eq_true rfl⟩ rfl (ct_Ter_cellCount H (fun r_8 H => ?_))
      refine EV_aload_n 0 d_Sea_resolve_93 rfl rfl ?_
      refine EV_get (j := 13) d_Sea_resolve_94 shC_38 rfl fI9 (by decide) k_289 rfl ?_
      refine EV_callV (as := [vR 19, vI (r_2 + r_7), vI r_8, vI (se.1 6)]) (st := []) d_Sea_resolve_97 k_672 k_673 k_674 k_9 k_675 shC_27 rfl pd_110 ⟨by decide, by decide, Nat.le_of_ble_eq_true rfl⟩ rfl (ct_Goa_putBefore H (fun go_9 H => ?_))
      refine EV_aload_n 0 d_Sea_resolve_100 rfl rfl ?_
      refine EV_callV (as := []) (st := []) d_Sea_resolve_101 k_836 k_838 kp_32 k_7 k_839 shC_38 rfl pd_135 ⟨by decide, by decide, Nat.le_of_ble_eq_true rfl⟩ rfl (ct_Sea_isLarge H (fun r_11 te_10 H => ?_))
      refine EV_if_eq (tgt := 112) d_Sea_resolve_104 (by decide) (fun hc => ?_) (fun hc => ?_)
      · have H := H.1 hc
        exact EV_vret d_Sea_resolve_112 rfl (hK _ _ _ H)
      · have H := H.2 hc
        refine EV_aload_n 0 d_Sea_resolve_107 rfl rfl ?_
        refine EV_iconst d_Sea_resolve_108 ⟨by decide, by decide⟩ ?_
        refine EV_put (j := 8) d_Sea_resolve_109 shC_38 rfl fI9 fO9 fN9 (by decide) k_284 rfl rfl (fun ad => nf_int ad _) (Nat.le_of_ble_eq_true rfl) shC_38_8 ?_
        exact EV_vret d_Sea_resolve_112 rfl (hK _ _ _ H)
    · have H := H.2 hc
      refine EV_lv (lv' := [(0, vR 38)]) [0] rfl ?_
      exact ct_Sea_resolve_62 H hK
theorem ct_Goa_cutOf {l : Launch} {o0 o1 o2 o3 o4 o5 o6 go o8 o9 o10 : Ob} {x1 : Int} {K : Int → Prop} {K' : Option AV → List AC → Prop} (H : wp_Goa_cutOf x1 go K) (hK : ∀ (r : Int), K r → K' (some (vI r)) (shC o0 o1 o2 o3 o4 o5 o6 go o8 o9 o10)) : MT l ⟨"PrunedSearch$Goals", "cutOf", "(I)I"⟩ prog_5_method_8_code 2 (some .int) 0 [vR 27, vI x1] (shC o0 o1 o2 o3 o4 o5 o6 go o8 o9 o10) K' := by
  unfold wp_Goa_cutOf at H
  refine MT_of (lv := [(0, vR 27), (1, vI x1)]) rfl rfl (Nat.le_of_ble_eq_true rfl) rfl ?_
  refine EV_iload_n 1 d_Goa_cutOf_0 rfl rfl ?_
  refine EV_if_lt (tgt := 21) d_Goa_cutOf_1 (by decide) (fun hc => ?_) (fun hc => ?_)
  · have H := H.1 hc
    refine EV_iconst d_Goa_cutOf_21 ⟨by decide, by decide⟩ ?_
    exact EV_iret d_Goa_cutOf_22 rfl (nw_int _) (hK _ H)
  · have H := H.2 hc
    refine EV_iload_n 1 d_Goa_cutOf_4 rfl rfl ?_
    refine EV_aload_n 0 d_Goa_cutOf_5 rfl rfl ?_
    refine EV_get (j := 3) d_Goa_cutOf_6 shC_27 rfl fI7 (by decide) k_198 rfl ?_
    refine EV_icmp_ge (tgt := 21) d_Goa_cutOf_9 (by decide) (fun hc => ?_) (fun hc => ?_)
    · have H := H.1 hc
      refine EV_iconst d_Goa_cutOf_21 ⟨by decide, by decide⟩ ?_
      exact EV_iret d_Goa_cutOf_22 rfl (nw_int _) (hK _ H)
    · have H := H.2 hc
      refine EV_aload_n 0 d_Goa_cutOf_12 rfl rfl ?_
      refine EV_get (j := 1) d_Goa_cutOf_13 shC_27 rfl fI7 (by decide) k_196 rfl ?_
      refine EV_iload_n 1 d_Goa_cutOf_16 rfl rfl ?_
      obtain ⟨hi, H⟩ := H
      refine EV_iald d_Goa_cutOf_17 shC_29 hi ?_
      refine EV_goto (tgt := 22) d_Goa_cutOf_18 (by decide) ?_
      exact EV_iret d_Goa_cutOf_22 rfl (nw_int _) (hK _ H)
theorem ct_Nam_wordOf {l : Launch} {o0 o1 nm o3 o4 o5 o6 o7 o8 o9 o10 : Ob} {x1 : Int} {K : Nat → Prop} {K' : Option AV → List AC → Prop} (H : wp_Nam_wordOf x1 nm K) (hK : ∀ (r : Nat), K r → K' (some (vL r)) (shC o0 o1 nm o3 o4 o5 o6 o7 o8 o9 o10)) : MT l ⟨"PrunedSearch$Names", "wordOf", "(I)J"⟩ prog_6_method_3_code 3 (some .long) 0 [vR 7, vI x1] (shC o0 o1 nm o3 o4 o5 o6 o7 o8 o9 o10) K' := by
  unfold wp_Nam_wordOf at H
  refine MT_of (lv := [(0, vR 7), (1, vI x1)]) rfl rfl (Nat.le_of_ble_eq_true rfl) rfl ?_
  refine EV_iload_n 1 d_Nam_wordOf_0 rfl rfl ?_
  refine EV_bipush d_Nam_wordOf_1 (by decide +kernel) ⟨by decide, by decide⟩ ?_
  obtain ⟨h0, H⟩ := H
  refine EV_idiv d_Nam_wordOf_3 h0 (by decide) ?_
  refine EV_iconst d_Nam_wordOf_4 ⟨by decide, by decide⟩ ?_
  obtain ⟨hr, H⟩ := H
  refine EV_isub d_Nam_wordOf_5 hr ?_
  refine EV_istore_n (lv' := [(0, vR 7), (1, vI x1), (2, vI ((x1 / 8) - 3))]) [1, 2, 0] d_Nam_wordOf_6 rfl (by decide) rfl ?_
  refine EV_iload_n 2 d_Nam_wordOf_7 rfl rfl ?_
  refine EV_if_lt (tgt := 28) d_Nam_wordOf_8 (by decide) (fun hc => ?_) (fun hc => ?_)
  · have H := H.1 hc
    refine EV_lconst (v := 0) d_Nam_wordOf_28 rfl ?_
    exact EV_lret d_Nam_wordOf_29 rfl (hK _ H)
  · have H := H.2 hc
    refine EV_iload_n 2 d_Nam_wordOf_11 rfl rfl ?_
    refine EV_aload_n 0 d_Nam_wordOf_12 rfl rfl ?_
    refine EV_get (j := 2) d_Nam_wordOf_13 shC_7 rfl fI3 (by decide) k_50 rfl ?_
    refine EV_icmp_ge (tgt := 28) d_Nam_wordOf_16 (by decide) (fun hc => ?_) (fun hc => ?_)
    · have H := H.1 hc
      refine EV_lconst (v := 0) d_Nam_wordOf_28 rfl ?_
      exact EV_lret d_Nam_wordOf_29 rfl (hK _ H)
    · have H := H.2 hc
      refine EV_aload_n 0 d_Nam_wordOf_19 rfl rfl ?_
      refine EV_get (j := 0) d_Nam_wordOf_20 shC_7 rfl fI3 (by decide) k_48 rfl ?_
      refine EV_iload_n 2 d_Nam_wordOf_23 rfl rfl ?_
      obtain ⟨hi, H⟩ := H
      refine EV_lald d_Nam_wordOf_24 shC_8 hi ?_
      refine EV_goto (tgt := 29) d_Nam_wordOf_25 (by decide) ?_
      exact EV_lret d_Nam_wordOf_29 rfl (hK _ H)
theorem ct_Goa_heldCount {l : Launch} {o0 o1 o2 o3 o4 o5 o6 go o8 o9 o10 : Ob} {K : Int → Prop} {K' : Option AV → List AC → Prop} (H : wp_Goa_heldCount go K) (hK : ∀ (r : Int), K r → K' (some (vI r)) (shC o0 o1 o2 o3 o4 o5 o6 go o8 o9 o10)) : MT l ⟨"PrunedSearch$Goals", "heldCount", "()I"⟩ prog_5_method_3_code 1 (some .int) 0 [vR 27] (shC o0 o1 o2 o3 o4 o5 o6 go o8 o9 o10) K' := by
  unfold wp_Goa_heldCount at H
  refine MT_of (lv := [(0, vR 27)]) rfl rfl (Nat.le_of_ble_eq_true rfl) rfl ?_
  refine EV_aload_n 0 d_Goa_heldCount_0 rfl rfl ?_
  refine EV_get (j := 3) d_Goa_heldCount_1 shC_27 rfl fI7 (by decide) k_198 rfl ?_
  exact EV_iret d_Goa_heldCount_4 rfl (nw_int _) (hK _ H)
theorem ct_Ter_changeCount {l : Launch} {o0 o1 o2 o3 o4 o5 te o7 o8 o9 o10 : Ob} {K : Int → Prop} {K' : Option AV → List AC → Prop} (H : wp_Ter_changeCount te K) (hK : ∀ (r : Int), K r → K' (some (vI r)) (shC o0 o1 o2 o3 o4 o5 te o7 o8 o9 o10)) : MT l ⟨"PrunedSearch$Terms", "changeCount", "()I"⟩ prog_9_method_3_code 1 (some .int) 0 [vR 19] (shC o0 o1 o2 o3 o4 o5 te o7 o8 o9 o10) K' := by
  unfold wp_Ter_changeCount at H
  refine MT_of (lv := [(0, vR 19)]) rfl rfl (Nat.le_of_ble_eq_true rfl) rfl ?_
  refine EV_aload_n 0 d_Ter_changeCount_0 rfl rfl ?_
  refine EV_get (j := 8) d_Ter_changeCount_1 shC_19 rfl fI6 (by decide) k_163 rfl ?_
  exact EV_iret d_Ter_changeCount_4 rfl (nw_int _) (hK _ H)
theorem ct_Cho_put {l : Launch} {o0 o1 o2 o3 o4 o5 te o7 ch o9 o10 : Ob} {x1 : Int} {x2 : Int} {x4 : Int} {x5 : Int} {K : Ob → Prop} {K' : Option AV → List AC → Prop} (H : wp_Cho_put x1 x2 x4 x5 te ch K) (hK : ∀ (ch' : Ob), K ch' → K' none (shC o0 o1 o2 o3 o4 o5 te o7 ch' o9 o10)) : MT l ⟨"PrunedSearch$Choices", "put", "(IILPrunedSearch$Terms;II)V"⟩ prog_2_method_3_code 6 none 1 [vR 31, vI x1, vI x2, vR 19, vI x4, vI x5] (shC o0 o1 o2 o3 o4 o5 te o7 ch o9 o10) K' := by
  unfold wp_Cho_put at H
  refine MT_of (lv := [(0, vR 31), (1, vI x1), (2, vI x2), (3, vR 19), (4, vI x4), (5, vI x5)]) rfl rfl (Nat.le_of_ble_eq_true rfl) rfl ?_
  refine EV_aload_n 0 d_Cho_put_0 rfl rfl ?_
  refine EV_get (j := 6) d_Cho_put_1 shC_31 rfl fI8 (by decide) k_223 rfl ?_
  refine EV_bipush d_Cho_put_4 (by decide +kernel) ⟨by decide, by decide⟩ ?_
  refine EV_icmp_ge (tgt := 87) d_Cho_put_6 (by decide) (fun hc => ?_) (fun hc => ?_)
  · have H := H.1 hc
    exact EV_vret d_Cho_put_87 rfl (hK _ H)
  · have H := H.2 hc
    refine EV_aload_n 0 d_Cho_put_9 rfl rfl ?_
    refine EV_get (j := 0) d_Cho_put_10 shC_31 rfl fI8 (by decide) k_217 rfl ?_
    refine EV_aload_n 0 d_Cho_put_13 rfl rfl ?_
    refine EV_get (j := 6) d_Cho_put_14 shC_31 rfl fI8 (by decide) k_223 rfl ?_
    refine EV_iload_n 1 d_Cho_put_17 rfl rfl ?_
    obtain ⟨hi, H⟩ := H
    refine EV_iast d_Cho_put_18 shC_32 hi shC_32_s ?_
    refine EV_aload_n 0 d_Cho_put_19 rfl rfl ?_
    refine EV_get (j := 1) d_Cho_put_20 shC_31 rfl fI8 (by decide) k_218 rfl ?_
    refine EV_aload_n 0 d_Cho_put_23 rfl rfl ?_
    refine EV_get (j := 6) d_Cho_put_24 shC_31 rfl fI8 (by decide) k_223 rfl ?_
    refine EV_iload_n 2 d_Cho_put_27 rfl rfl ?_
    obtain ⟨hi, H⟩ := H
    refine EV_iast d_Cho_put_28 shC_33 hi shC_33_s ?_
    refine EV_aload_n 0 d_Cho_put_29 rfl rfl ?_
    refine EV_get (j := 2) d_Cho_put_30 shC_31 rfl fI8 (by decide) k_219 rfl ?_
    refine EV_aload_n 0 d_Cho_put_33 rfl rfl ?_
    refine EV_get (j := 6) d_Cho_put_34 shC_31 rfl fI8 (by decide) k_223 rfl ?_
    refine EV_aload_n 3 d_Cho_put_37 rfl rfl ?_
    refine EV_callV (as := []) (st := [vI (ch.1 0), vR 34]) d_Cho_put_38 k_784 k_669 k_670 k_8 k_671 shC_19 rfl pd_111 ⟨by decide, by decide, Nat.le_of_ble_eq_true rfl⟩ rfl (ct_Ter_cellCount H (fun r_1 H => ?_))
    obtain ⟨hi, H⟩ := H
    refine EV_iast d_Cho_put_41 shC_34 hi shC_34_s ?_
    refine EV_aload_n 0 d_Cho_put_42 rfl rfl ?_
    refine EV_get (j := 3) d_Cho_put_43 shC_31 rfl fI8 (by decide) k_220 rfl ?_
    refine EV_aload_n 0 d_Cho_put_46 rfl rfl ?_
    refine EV_get (j := 6) d_Cho_put_47 shC_31 rfl fI8 (by decide) k_223 rfl ?_
    refine EV_aload_n 3 d_Cho_put_50 rfl rfl ?_
    refine EV_callV (as := []) (st := [vI (ch.1 0), vR 35]) d_Cho_put_51 k_785 k_786 k_787 k_8 k_788 shC_19 rfl pd_138 ⟨by decide, by decide, Nat.le_of_ble_eq_true rfl⟩ rfl (ct_Ter_changeCount H (fun r_2 H => ?_))
    obtain ⟨hi, H⟩ := H
    refine EV_iast d_Cho_put_54 shC_35 hi shC_35_s ?_
    refine EV_aload_n 0 d_Cho_put_55 rfl rfl ?_
    refine EV_get (j := 4) d_Cho_put_56 shC_31 rfl fI8 (by decide) k_221 rfl ?_
    refine EV_aload_n 0 d_Cho_put_59 rfl rfl ?_
    refine EV_get (j := 6) d_Cho_put_60 shC_31 rfl fI8 (by decide) k_223 rfl ?_
    refine EV_iload 4 d_Cho_put_63 rfl ?_
    obtain ⟨hi, H⟩ := H
    refine EV_iast d_Cho_put_65 shC_36 hi shC_36_s ?_
    refine EV_aload_n 0 d_Cho_put_66 rfl rfl ?_
    refine EV_get (j := 5) d_Cho_put_67 shC_31 rfl fI8 (by decide) k_222 rfl ?_
    refine EV_aload_n 0 d_Cho_put_70 rfl rfl ?_
    refine EV_get (j := 6) d_Cho_put_71 shC_31 rfl fI8 (by decide) k_223 rfl ?_
    refine EV_iload 5 d_Cho_put_74 rfl ?_
    obtain ⟨hi, H⟩ := H
    refine EV_iast d_Cho_put_76 shC_37 hi shC_37_s ?_
    refine EV_aload_n 0 d_Cho_put_77 rfl rfl ?_
    refine EV_dup d_Cho_put_78 rfl ?_
    refine EV_get (j := 6) d_Cho_put_79 shC_31 rfl fI8 (by decide) k_223 rfl ?_
    refine EV_iconst d_Cho_put_82 ⟨by decide, by decide⟩ ?_
    obtain ⟨hr, H⟩ := H
    refine EV_iadd d_Cho_put_83 hr ?_
    refine EV_put (j := 6) d_Cho_put_84 shC_31 rfl fI8 fO8 fN8 (by decide) k_223 rfl rfl (fun ad => nf_int ad _) (Nat.le_of_ble_eq_true rfl) shC_31_6 ?_
    exact EV_vret d_Cho_put_87 rfl (hK _ H)
