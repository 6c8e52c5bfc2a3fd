/-! printed by wip/gen/drive.py -/
theorem ct_Rd_readList {l : Launch} {dn : Nat} {RT : Ob → Ob → Ob → Ob → (Int → Ob → Ob → Ob → Prop) → Prop} (hd6 : 8 ≤ dn) (hRT : ∀ (o0 o1 o2 o3 o4 o5 o6 o7 o8 o9 o10 : Ob) (K : Int → Ob → Ob → Ob → Prop) (K' : Option AV → List AC → Prop), RT o1 o2 o4 o5 K → (∀ (r : Int) (o2' o4' o5' : Ob), K r o2' o4' o5' → K' (some (vI r)) (shC o0 o1 o2' o3 o4' o5' o6 o7 o8 o9 o10)) → MT l ⟨"PrunedSearch$ClauseReader", "readTerm", "()Z"⟩ prog_3_method_11_code 2 (some .boolean) dn [vR 17] (shC o0 o1 o2 o3 o4 o5 o6 o7 o8 o9 o10) K') {o0 tk nm o3 rc rd o6 o7 o8 o9 o10 : Ob} {K : Int → Ob → Ob → Ob → Prop} {K' : Option AV → List AC → Prop} (H : wp_Rd_readList RT tk nm rc rd K) (hK : ∀ (r : Int) (nm' rc' rd' : Ob), K r nm' rc' rd' → K' (some (vI r)) (shC o0 tk nm' o3 rc' rd' o6 o7 o8 o9 o10)) : MT l ⟨"PrunedSearch$ClauseReader", "readList", "()Z"⟩ prog_3_method_13_code 3 (some .boolean) (dn + 1) [vR 17] (shC o0 tk nm o3 rc rd o6 o7 o8 o9 o10) K' := by
  unfold wp_Rd_readList at H
  refine MT_of (lv := [(0, vR 17)]) rfl rfl (Nat.le_of_ble_eq_true rfl) rfl ?_
  refine EV_aload_n 0 d_Rd_readList_0 rfl rfl ?_
  refine EV_callV (as := []) (st := []) d_Rd_readList_1 k_550 k_552 kp_10 k_5 k_553 shC_17 rfl pd_75 ⟨by omega, by decide, Nat.le_of_ble_eq_true rfl⟩ rfl (ct_Rd_enter H (fun r_2 rd_1 H => ?_))
  refine EV_if_ne (tgt := 9) d_Rd_readList_4 (by decide) (fun hc => ?_) (fun hc => ?_)
  · have H := H.1 hc
    refine EV_aload_n 0 d_Rd_readList_9 rfl rfl ?_
    refine EV_bipush d_Rd_readList_10 (by decide +kernel) ⟨by decide, by decide⟩ ?_
    refine EV_callV (as := [vI 93]) (st := []) d_Rd_readList_12 k_513 k_515 kp_5 k_5 k_516 shC_17 rfl pd_77 ⟨by omega, by decide, Nat.le_of_ble_eq_true rfl⟩ rfl (ct_Rd_isAt H (fun r_3 H => ?_))
    refine EV_if_ne (tgt := 22) d_Rd_readList_15 (by decide) (fun hc => ?_) (fun hc => ?_)
    · have H := H.1 hc
      refine EV_iconst d_Rd_readList_22 ⟨by decide, by decide⟩ ?_
      exact ct_Rd_readList_23 hd6 hRT H hK
    · have H := H.2 hc
      refine EV_iconst d_Rd_readList_18 ⟨by decide, by decide⟩ ?_
      refine EV_goto (tgt := 23) d_Rd_readList_19 (by decide) ?_
      exact ct_Rd_readList_23 hd6 hRT H hK
  · have H := H.2 hc
    refine EV_iconst d_Rd_readList_7 ⟨by decide, by decide⟩ ?_
    exact EV_iret d_Rd_readList_8 rfl (nw_bool (by decide)) (hK _ _ _ _ H)
theorem cb_Rd_readTerm {l : Launch} {dn : Nat} {RT : Ob → Ob → Ob → Ob → (Int → Ob → Ob → Ob → Prop) → Prop} (hd6 : 8 ≤ dn) (hRT : ∀ (o0 o1 o2 o3 o4 o5 o6 o7 o8 o9 o10 : Ob) (K : Int → Ob → Ob → Ob → Prop) (K' : Option AV → List AC → Prop), RT o1 o2 o4 o5 K → (∀ (r : Int) (o2' o4' o5' : Ob), K r o2' o4' o5' → K' (some (vI r)) (shC o0 o1 o2' o3 o4' o5' o6 o7 o8 o9 o10)) → MT l ⟨"PrunedSearch$ClauseReader", "readTerm", "()Z"⟩ prog_3_method_11_code 2 (some .boolean) dn [vR 17] (shC o0 o1 o2 o3 o4 o5 o6 o7 o8 o9 o10) K') {o0 tk nm o3 rc rd o6 o7 o8 o9 o10 : Ob} {K : Int → Ob → Ob → Ob → Prop} {K' : Option AV → List AC → Prop} (H : bd_Rd_readTerm RT tk nm rc rd K) (hK : ∀ (r : Int) (nm' rc' rd' : Ob), K r nm' rc' rd' → K' (some (vI r)) (shC o0 tk nm' o3 rc' rd' o6 o7 o8 o9 o10)) : MT l ⟨"PrunedSearch$ClauseReader", "readTerm", "()Z"⟩ prog_3_method_11_code 2 (some .boolean) (dn + 2) [vR 17] (shC o0 tk nm o3 rc rd o6 o7 o8 o9 o10) K' := by
  unfold bd_Rd_readTerm at H
  refine MT_of (lv := [(0, vR 17)]) rfl rfl (Nat.le_of_ble_eq_true rfl) rfl ?_
  refine EV_aload_n 0 d_Rd_readTerm_0 rfl rfl ?_
  refine EV_bipush d_Rd_readTerm_1 (by decide +kernel) ⟨by decide, by decide⟩ ?_
  refine EV_callV (as := [vI 65]) (st := []) d_Rd_readTerm_3 k_513 k_515 kp_5 k_5 k_516 shC_17 rfl pd_77 ⟨by omega, by decide, Nat.le_of_ble_eq_true rfl⟩ rfl (ct_Rd_isAt H (fun r_1 H => ?_))
  refine EV_if_eq (tgt := 44) d_Rd_readTerm_6 (by decide) (fun hc => ?_) (fun hc => ?_)
  · have H := H.1 hc
    refine EV_aload_n 0 d_Rd_readTerm_44 rfl rfl ?_
    refine EV_bipush d_Rd_readTerm_45 (by decide +kernel) ⟨by decide, by decide⟩ ?_
    refine EV_callV (as := [vI 97]) (st := []) d_Rd_readTerm_47 k_513 k_515 kp_5 k_5 k_516 shC_17 rfl pd_77 ⟨by omega, by decide, Nat.le_of_ble_eq_true rfl⟩ rfl (ct_Rd_isAt H (fun r_2 H => ?_))
    refine EV_if_eq (tgt := 112) d_Rd_readTerm_50 (by decide) (fun hc => ?_) (fun hc => ?_)
    · have H := H.1 hc
      refine EV_aload_n 0 d_Rd_readTerm_112 rfl rfl ?_
      refine EV_bipush d_Rd_readTerm_113 (by decide +kernel) ⟨by decide, by decide⟩ ?_
      refine EV_callV (as := [vI 91]) (st := []) d_Rd_readTerm_115 k_513 k_515 kp_5 k_5 k_516 shC_17 rfl pd_77 ⟨by omega, by decide, Nat.le_of_ble_eq_true rfl⟩ rfl (ct_Rd_isAt H (fun r_3 H => ?_))
      refine EV_if_eq (tgt := 132) d_Rd_readTerm_118 (by decide) (fun hc => ?_) (fun hc => ?_)
      · have H := H.1 hc
        refine EV_iconst d_Rd_readTerm_132 ⟨by decide, by decide⟩ ?_
        exact EV_iret d_Rd_readTerm_133 rfl (nw_bool (by decide)) (hK _ _ _ _ H)
      · have H := H.2 hc
        refine EV_aload_n 0 d_Rd_readTerm_121 rfl rfl ?_
        refine EV_callV (as := []) (st := []) d_Rd_readTerm_122 k_563 k_565 kp_12 k_5 k_566 shC_17 rfl pd_78 ⟨by omega, by decide, Nat.le_of_ble_eq_true rfl⟩ rfl (ct_Rd_readList hd6 hRT H (fun r_7 nm_4 rc_5 rd_6 H => ?_))
        refine EV_if_eq (tgt := 132) d_Rd_readTerm_125 (by decide) (fun hc => ?_) (fun hc => ?_)
        · have H := H.1 hc
          refine EV_iconst d_Rd_readTerm_132 ⟨by decide, by decide⟩ ?_
          exact EV_iret d_Rd_readTerm_133 rfl (nw_bool (by decide)) (hK _ _ _ _ H)
        · have H := H.2 hc
          refine EV_iconst d_Rd_readTerm_128 ⟨by decide, by decide⟩ ?_
          refine EV_goto (tgt := 133) d_Rd_readTerm_129 (by decide) ?_
          exact EV_iret d_Rd_readTerm_133 rfl (nw_bool (by decide)) (hK _ _ _ _ H)
    · have H := H.2 hc
      refine EV_aload_n 0 d_Rd_readTerm_53 rfl rfl ?_
      refine EV_get (j := 2) d_Rd_readTerm_54 shC_17 rfl fI5 (by decide) k_114 rfl ?_
      refine EV_aload_n 0 d_Rd_readTerm_57 rfl rfl ?_
      refine EV_get (j := 0) d_Rd_readTerm_58 shC_17 rfl fI5 (by decide) k_112 rfl ?_
      refine EV_aload_n 0 d_Rd_readTerm_61 rfl rfl ?_
      refine EV_get (j := 1) d_Rd_readTerm_62 shC_17 rfl fI5 (by decide) k_113 rfl ?_
      refine EV_aload_n 0 d_Rd_readTerm_65 rfl rfl ?_
      refine EV_get (j := 8) d_Rd_readTerm_66 shC_17 rfl fI5 (by decide) k_120 rfl ?_
      refine EV_callV (as := [vI (rd.1 4)]) (st := [vR 7, vR 13]) d_Rd_readTerm_69 k_529 k_530 k_531 k_6 k_532 shC_3 rfl pd_81 ⟨by omega, by decide, Nat.le_of_ble_eq_true rfl⟩ rfl (ct_Tok_wordAt H (fun r_8 H => ?_))
      refine EV_callV (as := [vL r_8]) (st := [vR 13]) d_Rd_readTerm_72 k_542 k_543 k_544 k_3 k_545 shC_7 rfl pd_80 ⟨by omega, by decide, Nat.le_of_ble_eq_true rfl⟩ rfl (ct_Nam_symbolOf H (fun r_10 nm_9 H => ?_))
      refine EV_callV (as := [vI r_10]) (st := []) d_Rd_readTerm_75 k_538 k_539 k_540 k_4 k_541 shC_13 rfl pd_76 ⟨by omega, by decide, Nat.le_of_ble_eq_true rfl⟩ rfl (ct_Cod_add_r H (fun r_12 rc_11 H => ?_))
      refine EV_istore_n (lv' := [(0, vR 17), (1, vI r_12)]) [1, 0] d_Rd_readTerm_78 rfl (by decide) rfl ?_
      refine EV_aload_n 0 d_Rd_readTerm_79 rfl rfl ?_
      refine EV_dup d_Rd_readTerm_80 rfl ?_
      refine EV_get (j := 8) d_Rd_readTerm_81 shC_17 rfl fI5 (by decide) k_120 rfl ?_
      refine EV_iconst d_Rd_readTerm_84 ⟨by decide, by decide⟩ ?_
      obtain ⟨hr, H⟩ := H
      refine EV_iadd d_Rd_readTerm_85 hr ?_
      refine EV_put (j := 8) d_Rd_readTerm_86 shC_17 rfl fI5 fO5 fN5 (by decide) k_120 rfl rfl (fun ad => nf_int ad _) (Nat.le_of_ble_eq_true rfl) shC_17_8 ?_
      refine EV_aload_n 0 d_Rd_readTerm_89 rfl rfl ?_
      refine EV_bipush d_Rd_readTerm_90 (by decide +kernel) ⟨by decide, by decide⟩ ?_
      refine EV_callV (as := [vI 40]) (st := []) d_Rd_readTerm_92 k_513 k_515 kp_5 k_5 k_516 shC_17 rfl pd_77 ⟨by omega, by decide, Nat.le_of_ble_eq_true rfl⟩ rfl (ct_Rd_isAt H (fun r_13 H => ?_))
      refine EV_if_eq (tgt := 106) d_Rd_readTerm_95 (by decide) (fun hc => ?_) (fun hc => ?_)
      · have H := H.1 hc
        refine EV_iconst d_Rd_readTerm_106 ⟨by decide, by decide⟩ ?_
        refine EV_goto (tgt := 111) d_Rd_readTerm_107 (by decide) ?_
        exact EV_iret d_Rd_readTerm_111 rfl (nw_bool (by decide)) (hK _ _ _ _ H)
      · have H := H.2 hc
        refine EV_aload_n 0 d_Rd_readTerm_98 rfl rfl ?_
        refine EV_iload_n 1 d_Rd_readTerm_99 rfl rfl ?_
        refine EV_callV (as := [vI r_12]) (st := []) d_Rd_readTerm_100 k_546 k_548 kp_9 k_5 k_549 shC_17 rfl pd_79 ⟨by omega, by decide, Nat.le_of_ble_eq_true rfl⟩ rfl (ct_Rd_readArguments hd6 hRT H (fun r_17 nm_14 rc_15 rd_16 H => ?_))
        refine EV_if_eq (tgt := 110) d_Rd_readTerm_103 (by decide) (fun hc => ?_) (fun hc => ?_)
        · have H := H.1 hc
          refine EV_iconst d_Rd_readTerm_110 ⟨by decide, by decide⟩ ?_
          exact EV_iret d_Rd_readTerm_111 rfl (nw_bool (by decide)) (hK _ _ _ _ H)
        · have H := H.2 hc
          refine EV_iconst d_Rd_readTerm_106 ⟨by decide, by decide⟩ ?_
          refine EV_goto (tgt := 111) d_Rd_readTerm_107 (by decide) ?_
          exact EV_iret d_Rd_readTerm_111 rfl (nw_bool (by decide)) (hK _ _ _ _ H)
  · have H := H.2 hc
    refine EV_aload_n 0 d_Rd_readTerm_9 rfl rfl ?_
    refine EV_get (j := 2) d_Rd_readTerm_10 shC_17 rfl fI5 (by decide) k_114 rfl ?_
    refine EV_aload_n 0 d_Rd_readTerm_13 rfl rfl ?_
    refine EV_aload_n 0 d_Rd_readTerm_14 rfl rfl ?_
    refine EV_get (j := 1) d_Rd_readTerm_15 shC_17 rfl fI5 (by decide) k_113 rfl ?_
    refine EV_aload_n 0 d_Rd_readTerm_18 rfl rfl ?_
    refine EV_get (j := 8) d_Rd_readTerm_19 shC_17 rfl fI5 (by decide) k_120 rfl ?_
    refine EV_callV (as := [vI (rd.1 4)]) (st := [vR 17, vR 13]) d_Rd_readTerm_22 k_529 k_530 k_531 k_6 k_532 shC_3 rfl pd_81 ⟨by omega, by decide, Nat.le_of_ble_eq_true rfl⟩ rfl (ct_Tok_wordAt H (fun r_18 H => ?_))
    refine EV_callV (as := [vL r_18]) (st := [vR 13]) d_Rd_readTerm_25 k_533 k_535 kp_8 k_5 k_536 shC_17 rfl pd_82 ⟨by omega, by decide, Nat.le_of_ble_eq_true rfl⟩ rfl (ct_Rd_variableSymbol H (fun r_20 rd_19 H => ?_))
    refine EV_callV (as := [vI r_20]) (st := []) d_Rd_readTerm_28 k_538 k_539 k_540 k_4 k_541 shC_13 rfl pd_76 ⟨by omega, by decide, Nat.le_of_ble_eq_true rfl⟩ rfl (ct_Cod_add_r H (fun r_22 rc_21 H => ?_))
    refine EV_pop d_Rd_readTerm_31 rfl ?_
    refine EV_aload_n 0 d_Rd_readTerm_32 rfl rfl ?_
    refine EV_dup d_Rd_readTerm_33 rfl ?_
    refine EV_get (j := 8) d_Rd_readTerm_34 shC_17 rfl fI5 (by decide) k_120 rfl ?_
    refine EV_iconst d_Rd_readTerm_37 ⟨by decide, by decide⟩ ?_
    obtain ⟨hr, H⟩ := H
    refine EV_iadd d_Rd_readTerm_38 hr ?_
    refine EV_put (j := 8) d_Rd_readTerm_39 shC_17 rfl fI5 fO5 fN5 (by decide) k_120 rfl rfl (fun ad => nf_int ad _) (Nat.le_of_ble_eq_true rfl) shC_17_8 ?_
    refine EV_iconst d_Rd_readTerm_42 ⟨by decide, by decide⟩ ?_
    exact EV_iret d_Rd_readTerm_43 rfl (nw_bool (by decide)) (hK _ _ _ _ H)
theorem ct_Rd_readTerm {l : Launch} : ∀ (n : Nat) {o0 tk nm o3 rc rd o6 o7 o8 o9 o10 : Ob} {K : Int → Ob → Ob → Ob → Prop} {K' : Option AV → List AC → Prop} (H : wp_Rd_readTerm n tk nm rc rd K) (hK : ∀ (r : Int) (nm' rc' rd' : Ob), K r nm' rc' rd' → K' (some (vI r)) (shC o0 tk nm' o3 rc' rd' o6 o7 o8 o9 o10)), MT l ⟨"PrunedSearch$ClauseReader", "readTerm", "()Z"⟩ prog_3_method_11_code 2 (some .boolean) (2 * n + 8) [vR 17] (shC o0 tk nm o3 rc rd o6 o7 o8 o9 o10) K' := by
  intro n
  induction n with
  | zero =>
    intro o0 tk nm o3 rc rd o6 o7 o8 o9 o10 K K' H hK
    exact H.elim
  | succ n ih =>
    intro o0 tk nm o3 rc rd o6 o7 o8 o9 o10 K K' H hK
    exact cb_Rd_readTerm (dn := 2 * n + 8) (by omega) (fun _ _ _ _ _ _ _ _ _ _ _ K K' h hk => ih h hk) H hK
theorem ct_Rd_readGoals_65 {l : Launch} {o0 tk o3 o6 o7 o8 o9 o10 : Ob} {K : Int → Ob → Ob → Ob → Prop} {K' : Option AV → List AC → Prop} {L4 : Int → Int → Ob → Ob → Ob → Prop} {x2 : Int} {nm rc rd : Ob} (hL4 : ∀ (x1 : Int) (x2 : Int) (nm rc rd : Ob), L4 x1 x2 nm rc rd → EV l prog_3_method_10_code "PrunedSearch$ClauseReader" 3 (some .boolean) 41 4 [(0, vR 17), (1, vI x1), (2, vI x2)] [] (shC o0 tk nm o3 rc rd o6 o7 o8 o9 o10) K') (H : Rd_readGoals_65 L4 x2 tk nm rc rd K) (hK : ∀ (r : Int) (nm' rc' rd' : Ob), K r nm' rc' rd' → K' (some (vI r)) (shC o0 tk nm' o3 rc' rd' o6 o7 o8 o9 o10)) : EV l prog_3_method_10_code "PrunedSearch$ClauseReader" 3 (some .boolean) 41 65 [(0, vR 17), (2, vI x2)] [] (shC o0 tk nm o3 rc rd o6 o7 o8 o9 o10) K' := by
  refine EV_aload_n 0 d_Rd_readGoals_65 rfl rfl ?_
  refine EV_bipush d_Rd_readGoals_66 (by decide +kernel) ⟨by decide, by decide⟩ ?_
  refine EV_callV (as := [vI 44]) (st := []) d_Rd_readGoals_68 k_554 k_556 kp_11 k_5 k_557 shC_17 rfl pd_72 ⟨by decide, by decide, Nat.le_of_ble_eq_true rfl⟩ rfl (ct_Rd_accept H (fun r_9 rd_8 H => ?_))
  refine EV_istore_n (lv' := [(0, vR 17), (1, vI r_9), (2, vI x2)]) [1, 0, 2] d_Rd_readGoals_71 rfl (by decide) rfl ?_
  obtain ⟨hr, H⟩ := H
  refine EV_iinc (lv' := [(0, vR 17), (1, vI r_9), (2, vI (x2 + 1))]) 2 [1, 2, 0] d_Rd_readGoals_72 rfl (by decide) hr rfl ?_
  refine EV_goto (tgt := 4) d_Rd_readGoals_75 (by decide) ?_
  exact hL4 r_9 (x2 + 1) nm rc rd_8 H
theorem ct_Rd_readGoals_4 {l : Launch} {o0 tk o3 o6 o7 o8 o9 o10 : Ob} {K : Int → Ob → Ob → Ob → Prop} {K' : Option AV → List AC → Prop} (hK : ∀ (r : Int) (nm' rc' rd' : Ob), K r nm' rc' rd' → K' (some (vI r)) (shC o0 tk nm' o3 rc' rd' o6 o7 o8 o9 o10)) : ∀ (n : Nat) (x1 : Int) (x2 : Int) (nm rc rd : Ob), Rd_readGoals_4 n x1 x2 tk nm rc rd K → EV l prog_3_method_10_code "PrunedSearch$ClauseReader" 3 (some .boolean) 41 4 [(0, vR 17), (1, vI x1), (2, vI x2)] [] (shC o0 tk nm o3 rc rd o6 o7 o8 o9 o10) K' := by
  intro n
  induction n with
  | zero =>
    intro x1 x2 nm rc rd H
    exact H.elim
  | succ n ih =>
    intro x1 x2 nm rc rd H
    refine EV_iload_n 2 d_Rd_readGoals_4 rfl rfl ?_
    refine EV_sipush d_Rd_readGoals_5 (by decide +kernel) ⟨by decide, by decide⟩ ?_
    refine EV_icmp_ge (tgt := 78) d_Rd_readGoals_8 (by decide) (fun hc => ?_) (fun hc => ?_)
    · have H := H.1 hc
      refine EV_iconst d_Rd_readGoals_78 ⟨by decide, by decide⟩ ?_
      exact EV_iret d_Rd_readGoals_79 rfl (nw_bool (by decide)) (hK _ _ _ _ H)
    · have H := H.2 hc
      refine EV_iload_n 1 d_Rd_readGoals_11 rfl rfl ?_
      refine EV_if_eq (tgt := 78) d_Rd_readGoals_12 (by decide) (fun hc => ?_) (fun hc => ?_)
      · have H := H.1 hc
        refine EV_iconst d_Rd_readGoals_78 ⟨by decide, by decide⟩ ?_
        exact EV_iret d_Rd_readGoals_79 rfl (nw_bool (by decide)) (hK _ _ _ _ H)
      · have H := H.2 hc
        refine EV_aload_n 0 d_Rd_readGoals_15 rfl rfl ?_
        refine EV_dup d_Rd_readGoals_16 rfl ?_
        refine EV_get (j := 6) d_Rd_readGoals_17 shC_17 rfl fI5 (by decide) k_118 rfl ?_
        refine EV_iconst d_Rd_readGoals_20 ⟨by decide, by decide⟩ ?_
        obtain ⟨hr, H⟩ := H
        refine EV_iadd d_Rd_readGoals_21 hr ?_
        refine EV_put (j := 6) d_Rd_readGoals_22 shC_17 rfl fI5 fO5 fN5 (by decide) k_118 rfl rfl (fun ad => nf_int ad _) (Nat.le_of_ble_eq_true rfl) shC_17_6 ?_
        refine EV_aload_n 0 d_Rd_readGoals_25 rfl rfl ?_
        refine EV_bipush d_Rd_readGoals_26 (by decide +kernel) ⟨by decide, by decide⟩ ?_
        refine EV_callV (as := [vI 33]) (st := []) d_Rd_readGoals_28 k_554 k_556 kp_11 k_5 k_557 shC_17 rfl pd_72 ⟨by decide, by decide, Nat.le_of_ble_eq_true rfl⟩ rfl (ct_Rd_accept H (fun r_2 rd_1 H => ?_))
        refine EV_if_eq (tgt := 47) d_Rd_readGoals_31 (by decide) (fun hc => ?_) (fun hc => ?_)
        · have H := H.1 hc
          refine EV_aload_n 0 d_Rd_readGoals_47 rfl rfl ?_
          refine EV_bipush d_Rd_readGoals_48 (by decide +kernel) ⟨by decide, by decide⟩ ?_
          refine EV_callV (as := [vI 97]) (st := []) d_Rd_readGoals_50 k_513 k_515 kp_5 k_5 k_516 shC_17 rfl pd_77 ⟨by decide, by decide, Nat.le_of_ble_eq_true rfl⟩ rfl (ct_Rd_isAt H (fun r_3 H => ?_))
          refine EV_if_eq (tgt := 63) d_Rd_readGoals_53 (by decide) (fun hc => ?_) (fun hc => ?_)
          · have H := H.1 hc
            refine EV_iconst d_Rd_readGoals_63 ⟨by decide, by decide⟩ ?_
            exact EV_iret d_Rd_readGoals_64 rfl (nw_bool (by decide)) (hK _ _ _ _ H)
          · have H := H.2 hc
            refine EV_aload_n 0 d_Rd_readGoals_56 rfl rfl ?_
            refine EV_callV (as := []) (st := []) d_Rd_readGoals_57 k_525 k_527 kp_7 k_5 k_528 shC_17 rfl pd_74 ⟨by decide, by decide, Nat.le_of_ble_eq_true rfl⟩ rfl (ct_Rd_readTerm 16 H (fun r_7 nm_4 rc_5 rd_6 H => ?_))
            refine EV_if_ne (tgt := 65) d_Rd_readGoals_60 (by decide) (fun hc => ?_) (fun hc => ?_)
            · have H := H.1 hc
              refine EV_lv (lv' := [(0, vR 17), (2, vI x2)]) [0, 2] rfl ?_
              exact ct_Rd_readGoals_65 (fun x1 x2 nm' rc' rd' H => ih x1 x2 nm' rc' rd' H) H hK
            · have H := H.2 hc
              refine EV_iconst d_Rd_readGoals_63 ⟨by decide, by decide⟩ ?_
              exact EV_iret d_Rd_readGoals_64 rfl (nw_bool (by decide)) (hK _ _ _ _ H)
        · have H := H.2 hc
          refine EV_aload_n 0 d_Rd_readGoals_34 rfl rfl ?_
          refine EV_get (j := 2) d_Rd_readGoals_35 shC_17 rfl fI5 (by decide) k_114 rfl ?_
          refine EV_bipush d_Rd_readGoals_38 (by decide +kernel) ⟨by decide, by decide⟩ ?_
          refine EV_callV (as := [vI 16]) (st := []) d_Rd_readGoals_40 k_538 k_539 k_540 k_4 k_541 shC_13 rfl pd_76 ⟨by decide, by decide, Nat.le_of_ble_eq_true rfl⟩ rfl (ct_Cod_add_r H (fun r_11 rc_10 H => ?_))
          refine EV_pop d_Rd_readGoals_43 rfl ?_
          refine EV_goto (tgt := 65) d_Rd_readGoals_44 (by decide) ?_
          refine EV_lv (lv' := [(0, vR 17), (2, vI x2)]) [0, 2] rfl ?_
          exact ct_Rd_readGoals_65 (fun x1 x2 nm' rc' rd' H => ih x1 x2 nm' rc' rd' H) H hK
theorem ct_Rd_readGoals {l : Launch} {o0 tk nm o3 rc rd o6 o7 o8 o9 o10 : Ob} {K : Int → Ob → Ob → Ob → Prop} {K' : Option AV → List AC → Prop} (H : wp_Rd_readGoals tk nm rc rd K) (hK : ∀ (r : Int) (nm' rc' rd' : Ob), K r nm' rc' rd' → K' (some (vI r)) (shC o0 tk nm' o3 rc' rd' o6 o7 o8 o9 o10)) : MT l ⟨"PrunedSearch$ClauseReader", "readGoals", "()Z"⟩ prog_3_method_10_code 3 (some .boolean) 41 [vR 17] (shC o0 tk nm o3 rc rd o6 o7 o8 o9 o10) K' := by
  unfold wp_Rd_readGoals at H
  refine MT_of (lv := [(0, vR 17)]) rfl rfl (Nat.le_of_ble_eq_true rfl) rfl ?_
  refine EV_iconst d_Rd_readGoals_0 ⟨by decide, by decide⟩ ?_
  refine EV_istore_n (lv' := [(0, vR 17), (1, vI 1)]) [1, 0] d_Rd_readGoals_1 rfl (by decide) rfl ?_
  refine EV_iconst d_Rd_readGoals_2 ⟨by decide, by decide⟩ ?_
  refine EV_istore_n (lv' := [(0, vR 17), (1, vI 1), (2, vI 0)]) [1, 2, 0] d_Rd_readGoals_3 rfl (by decide) rfl ?_
  obtain ⟨n, H⟩ := H
  exact ct_Rd_readGoals_4 hK n 1 0 nm rc rd H
theorem ct_Cod_partCount_r {l : Launch} {o0 o1 o2 o3 rc o5 o6 o7 o8 o9 o10 : Ob} {K : Int → Prop} {K' : Option AV → List AC → Prop} (H : wp_Cod_partCount_r rc K) (hK : ∀ (r : Int), K r → K' (some (vI r)) (shC o0 o1 o2 o3 rc o5 o6 o7 o8 o9 o10)) : MT l ⟨"PrunedSearch$Code", "partCount", "()I"⟩ prog_4_method_8_code 1 (some .int) 0 [vR 13] (shC o0 o1 o2 o3 rc o5 o6 o7 o8 o9 o10) K' := by
  unfold wp_Cod_partCount_r at H
  refine MT_of (lv := [(0, vR 13)]) rfl rfl (Nat.le_of_ble_eq_true rfl) rfl ?_
  refine EV_aload_n 0 d_Cod_partCount_p_0 rfl rfl ?_
  refine EV_get (j := 4) d_Cod_partCount_p_1 shC_13 rfl fI4 (by decide) k_72 rfl ?_
  exact EV_iret d_Cod_partCount_p_4 rfl (nw_int _) (hK _ H)
theorem ct_Cod_startOf_r {l : Launch} {o0 o1 o2 o3 rc o5 o6 o7 o8 o9 o10 : Ob} {x1 : Int} {K : Int → Prop} {K' : Option AV → List AC → Prop} (H : wp_Cod_startOf_r x1 rc K) (hK : ∀ (r : Int), K r → K' (some (vI r)) (shC o0 o1 o2 o3 rc o5 o6 o7 o8 o9 o10)) : MT l ⟨"PrunedSearch$Code", "startOf", "(I)I"⟩ prog_4_method_9_code 2 (some .int) 0 [vR 13, vI x1] (shC o0 o1 o2 o3 rc o5 o6 o7 o8 o9 o10) K' := by
  unfold wp_Cod_startOf_r at H
  refine MT_of (lv := [(0, vR 13), (1, vI x1)]) rfl rfl (Nat.le_of_ble_eq_true rfl) rfl ?_
  refine EV_iload_n 1 d_Cod_startOf_r_0 rfl rfl ?_
  refine EV_iconst d_Cod_startOf_r_1 ⟨by decide, by decide⟩ ?_
  refine EV_icmp_lt (tgt := 14) d_Cod_startOf_r_2 (by decide) (fun hc => ?_) (fun hc => ?_)
  · have H := H.1 hc
    refine EV_iconst d_Cod_startOf_r_14 ⟨by decide, by decide⟩ ?_
    refine EV_goto (tgt := 26) d_Cod_startOf_r_15 (by decide) ?_
    exact EV_iret d_Cod_startOf_r_26 rfl (nw_int _) (hK _ H)
  · have H := H.2 hc
    refine EV_iload_n 1 d_Cod_startOf_r_5 rfl rfl ?_
    refine EV_aload_n 0 d_Cod_startOf_r_6 rfl rfl ?_
    refine EV_get (j := 2) d_Cod_startOf_r_7 shC_13 rfl fI4 (by decide) k_70 rfl ?_
    refine EV_alen (t := 0) (by decide) d_Cod_startOf_r_10 shC_16 (by decide) ?_
    refine EV_icmp_le (tgt := 18) d_Cod_startOf_r_11 (by decide) (fun hc => ?_) (fun hc => ?_)
    · have H := H.1 hc
      refine EV_aload_n 0 d_Cod_startOf_r_18 rfl rfl ?_
      refine EV_get (j := 2) d_Cod_startOf_r_19 shC_13 rfl fI4 (by decide) k_70 rfl ?_
      refine EV_iload_n 1 d_Cod_startOf_r_22 rfl rfl ?_
      refine EV_iconst d_Cod_startOf_r_23 ⟨by decide, by decide⟩ ?_
      obtain ⟨hr, H⟩ := H
      refine EV_isub d_Cod_startOf_r_24 hr ?_
      obtain ⟨hi, H⟩ := H
      refine EV_iald d_Cod_startOf_r_25 shC_16 hi ?_
      exact EV_iret d_Cod_startOf_r_26 rfl (nw_int _) (hK _ H)
    · have H := H.2 hc
      refine EV_iconst d_Cod_startOf_r_14 ⟨by decide, by decide⟩ ?_
      refine EV_goto (tgt := 26) d_Cod_startOf_r_15 (by decide) ?_
      exact EV_iret d_Cod_startOf_r_26 rfl (nw_int _) (hK _ H)
theorem ct_Cod_symbolsSince_r {l : Launch} {o0 o1 o2 o3 rc o5 o6 o7 o8 o9 o10 : Ob} {x1 : Int} {K : Int → Prop} {K' : Option AV → List AC → Prop} (H : wp_Cod_symbolsSince_r x1 rc K) (hK : ∀ (r : Int), K r → K' (some (vI r)) (shC o0 o1 o2 o3 rc o5 o6 o7 o8 o9 o10)) : MT l ⟨"PrunedSearch$Code", "symbolsSince", "(I)I"⟩ prog_4_method_13_code 2 (some .int) 1 [vR 13, vI x1] (shC o0 o1 o2 o3 rc o5 o6 o7 o8 o9 o10) K' := by
  unfold wp_Cod_symbolsSince_r at H
  refine MT_of (lv := [(0, vR 13), (1, vI x1)]) rfl rfl (Nat.le_of_ble_eq_true rfl) rfl ?_
  refine EV_aload_n 0 d_Cod_symbolsSince_r_0 rfl rfl ?_
  refine EV_get (j := 3) d_Cod_symbolsSince_r_1 shC_13 rfl fI4 (by decide) k_71 rfl ?_
  refine EV_aload_n 0 d_Cod_symbolsSince_r_4 rfl rfl ?_
  refine EV_iload_n 1 d_Cod_symbolsSince_r_5 rfl rfl ?_
  refine EV_callV (as := [vI x1]) (st := [vI (rc.1 0)]) d_Cod_symbolsSince_r_6 k_580 k_581 k_582 k_4 k_583 shC_13 rfl pd_83 ⟨by decide, by decide, Nat.le_of_ble_eq_true rfl⟩ rfl (ct_Cod_startOf_r H (fun r_1 H => ?_))
  obtain ⟨hr, H⟩ := H
  refine EV_isub d_Cod_symbolsSince_r_9 hr ?_
  exact EV_iret d_Cod_symbolsSince_r_10 rfl (nw_int _) (hK _ H)
theorem ct_P_argumentsOf {l : Launch} {o0 o1 o2 o3 o4 o5 o6 o7 o8 o9 o10 : Ob} {x0 : Int} {K : Int → Prop} {K' : Option AV → List AC → Prop} (H : wp_P_argumentsOf x0 K) (hK : ∀ (r : Int), K r → K' (some (vI r)) (shC o0 o1 o2 o3 o4 o5 o6 o7 o8 o9 o10)) : MT l ⟨"PrunedSearch", "argumentsOf", "(I)I"⟩ prog_1_method_15_code 1 (some .int) 0 [vI x0] (shC o0 o1 o2 o3 o4 o5 o6 o7 o8 o9 o10) K' := by
  unfold wp_P_argumentsOf at H
  refine MT_of (lv := [(0, vI x0)]) rfl rfl (Nat.le_of_ble_eq_true rfl) rfl ?_
  refine EV_iload_n 0 d_P_argumentsOf_0 rfl rfl ?_
  refine EV_if_ge (tgt := 8) d_P_argumentsOf_1 (by decide) (fun hc => ?_) (fun hc => ?_)
  · have H := H.1 hc
    refine EV_iload_n 0 d_P_argumentsOf_8 rfl rfl ?_
    refine EV_bipush d_P_argumentsOf_9 (by decide +kernel) ⟨by decide, by decide⟩ ?_
    obtain ⟨h0, H⟩ := H
    refine EV_irem d_P_argumentsOf_11 h0 (by decide) ?_
    exact EV_iret d_P_argumentsOf_12 rfl (nw_int _) (hK _ H)
  · have H := H.2 hc
    refine EV_iconst d_P_argumentsOf_4 ⟨by decide, by decide⟩ ?_
    refine EV_goto (tgt := 12) d_P_argumentsOf_5 (by decide) ?_
    exact EV_iret d_P_argumentsOf_12 rfl (nw_int _) (hK _ H)
theorem ct_Cod_measure_r_60 {l : Launch} {o0 o1 o2 o3 o5 o6 o7 o8 o9 o10 : Ob} {K : Ob → Prop} {K' : Option AV → List AC → Prop} {L7 : Int → Int → Ob → Prop} {x1 : Int} {x2 : Int} {x3 : Int} {rc : Ob} (hL7 : ∀ (x1 : Int) (x2 : Int) (rc : Ob), L7 x1 x2 rc → EV l prog_4_method_6_code "PrunedSearch$Code" 6 none 1 7 [(0, vR 13), (1, vI x1), (2, vI x2)] [] (shC o0 o1 o2 o3 rc o5 o6 o7 o8 o9 o10) K') (H : Cod_measure_r_60 L7 x1 x2 x3 rc K) (hK : ∀ (rc' : Ob), K rc' → K' none (shC o0 o1 o2 o3 rc' o5 o6 o7 o8 o9 o10)) : EV l prog_4_method_6_code "PrunedSearch$Code" 6 none 1 60 [(0, vR 13), (1, vI x1), (2, vI x2), (3, vI x3)] [] (shC o0 o1 o2 o3 rc o5 o6 o7 o8 o9 o10) K' := by
  refine EV_aload_n 0 d_Cod_measure_r_60 rfl rfl ?_
  refine EV_get (j := 1) d_Cod_measure_r_61 shC_13 rfl fI4 (by decide) k_69 rfl ?_
  refine EV_iload_n 2 d_Cod_measure_r_64 rfl rfl ?_
  refine EV_iload_n 3 d_Cod_measure_r_65 rfl rfl ?_
  refine EV_iload_n 2 d_Cod_measure_r_66 rfl rfl ?_
  obtain ⟨hr, H⟩ := H
  refine EV_isub d_Cod_measure_r_67 hr ?_
  obtain ⟨hi, H⟩ := H
  refine EV_iast d_Cod_measure_r_68 shC_15 hi shC_15_s ?_
  obtain ⟨hr, H⟩ := H
  refine EV_iinc (lv' := [(0, vR 13), (1, vI x1), (2, vI (x2 + (-1))), (3, vI x3)]) 2 [1, 2, 0, 3] d_Cod_measure_r_69 rfl (by decide) hr rfl ?_
  refine EV_goto (tgt := 7) d_Cod_measure_r_72 (by decide) ?_
  refine EV_lv (lv' := [(0, vR 13), (1, vI x1), (2, vI (x2 + (-1)))]) [0, 1, 2] rfl ?_
  exact hL7 x1 (x2 + (-1)) (sA rc 1 x2 (x3 - x2)) H
theorem ct_Cod_measure_r_30 {l : Launch} {o0 o1 o2 o3 o5 o6 o7 o8 o9 o10 : Ob} {K : Ob → Prop} {K' : Option AV → List AC → Prop} {L7 : Int → Int → Ob → Prop} (hL7 : ∀ (x1 : Int) (x2 : Int) (rc : Ob), L7 x1 x2 rc → EV l prog_4_method_6_code "PrunedSearch$Code" 6 none 1 7 [(0, vR 13), (1, vI x1), (2, vI x2)] [] (shC o0 o1 o2 o3 rc o5 o6 o7 o8 o9 o10) K') (hK : ∀ (rc' : Ob), K rc' → K' none (shC o0 o1 o2 o3 rc' o5 o6 o7 o8 o9 o10)) : ∀ (n : Nat) (x1 : Int) (x2 : Int) (x3 : Int) (x4 : Int) (x5 : Int) (rc : Ob), Cod_measure_r_30 L7 n x1 x2 x3 x4 x5 rc K → EV l prog_4_method_6_code "PrunedSearch$Code" 6 none 1 30 [(0, vR 13), (1, vI x1), (2, vI x2), (3, vI x3), (4, vI x4), (5, vI x5)] [] (shC o0 o1 o2 o3 rc o5 o6 o7 o8 o9 o10) K' := by
  intro n
  induction n with
  | zero =>
    intro x1 x2 x3 x4 x5 rc H
    exact H.elim
  | succ n ih =>
    intro x1 x2 x3 x4 x5 rc H
    refine EV_iload 5 d_Cod_measure_r_30 rfl ?_
    refine EV_iload 4 d_Cod_measure_r_32 rfl ?_
    refine EV_icmp_ge (tgt := 60) d_Cod_measure_r_34 (by decide) (fun hc => ?_) (fun hc => ?_)
    · have H := H.1 hc
      refine EV_lv (lv' := [(0, vR 13), (1, vI x1), (2, vI x2), (3, vI x3)]) [0, 1, 2, 3] rfl ?_
      exact ct_Cod_measure_r_60 hL7 H hK
    · have H := H.2 hc
      refine EV_iload_n 3 d_Cod_measure_r_37 rfl rfl ?_
      refine EV_aload_n 0 d_Cod_measure_r_38 rfl rfl ?_
      refine EV_get (j := 3) d_Cod_measure_r_39 shC_13 rfl fI4 (by decide) k_71 rfl ?_
      refine EV_icmp_ge (tgt := 60) d_Cod_measure_r_42 (by decide) (fun hc => ?_) (fun hc => ?_)
      · have H := H.1 hc
        refine EV_lv (lv' := [(0, vR 13), (1, vI x1), (2, vI x2), (3, vI x3)]) [0, 1, 2, 3] rfl ?_
        exact ct_Cod_measure_r_60 hL7 H hK
      · have H := H.2 hc
        refine EV_iload_n 3 d_Cod_measure_r_45 rfl rfl ?_
        refine EV_aload_n 0 d_Cod_measure_r_46 rfl rfl ?_
        refine EV_get (j := 1) d_Cod_measure_r_47 shC_13 rfl fI4 (by decide) k_69 rfl ?_
        refine EV_iload_n 3 d_Cod_measure_r_50 rfl rfl ?_
        obtain ⟨hi, H⟩ := H
        refine EV_iald d_Cod_measure_r_51 shC_15 hi ?_
        obtain ⟨hr, H⟩ := H
        refine EV_iadd d_Cod_measure_r_52 hr ?_
        refine EV_istore_n (lv' := [(0, vR 13), (1, vI x1), (2, vI x2), (3, vI (x3 + (rc.2.1 1 x3))), (4, vI x4), (5, vI x5)]) [1, 2, 3, 0, 4, 5] d_Cod_measure_r_53 rfl (by decide) rfl ?_
        obtain ⟨hr, H⟩ := H
        refine EV_iinc (lv' := [(0, vR 13), (1, vI x1), (2, vI x2), (3, vI (x3 + (rc.2.1 1 x3))), (4, vI x4), (5, vI (x5 + 1))]) 5 [1, 2, 3, 4, 5, 0] d_Cod_measure_r_54 rfl (by decide) hr rfl ?_
        refine EV_goto (tgt := 30) d_Cod_measure_r_57 (by decide) ?_
        exact ih x1 x2 (x3 + (rc.2.1 1 x3)) x4 (x5 + 1) rc H
theorem ct_Cod_measure_r_7 {l : Launch} {o0 o1 o2 o3 o5 o6 o7 o8 o9 o10 : Ob} {K : Ob → Prop} {K' : Option AV → List AC → Prop} (hK : ∀ (rc' : Ob), K rc' → K' none (shC o0 o1 o2 o3 rc' o5 o6 o7 o8 o9 o10)) : ∀ (n : Nat) (x1 : Int) (x2 : Int) (rc : Ob), Cod_measure_r_7 n x1 x2 rc K → EV l prog_4_method_6_code "PrunedSearch$Code" 6 none 1 7 [(0, vR 13), (1, vI x1), (2, vI x2)] [] (shC o0 o1 o2 o3 rc o5 o6 o7 o8 o9 o10) K' := by
  intro n
  induction n with
  | zero =>
    intro x1 x2 rc H
    exact H.elim
  | succ n ih =>
    intro x1 x2 rc H
    refine EV_iload_n 2 d_Cod_measure_r_7 rfl rfl ?_
    refine EV_iload_n 1 d_Cod_measure_r_8 rfl rfl ?_
    refine EV_icmp_lt (tgt := 75) d_Cod_measure_r_9 (by decide) (fun hc => ?_) (fun hc => ?_)
    · have H := H.1 hc
      exact EV_vret d_Cod_measure_r_75 rfl (hK _ H)
    · have H := H.2 hc
      refine EV_iload_n 2 d_Cod_measure_r_12 rfl rfl ?_
      refine EV_iconst d_Cod_measure_r_13 ⟨by decide, by decide⟩ ?_
      obtain ⟨hr, H⟩ := H
      refine EV_iadd d_Cod_measure_r_14 hr ?_
      refine EV_istore_n (lv' := [(0, vR 13), (1, vI x1), (2, vI x2), (3, vI (x2 + 1))]) [1, 2, 3, 0] d_Cod_measure_r_15 rfl (by decide) rfl ?_
      refine EV_aload_n 0 d_Cod_measure_r_16 rfl rfl ?_
      refine EV_get (j := 0) d_Cod_measure_r_17 shC_13 rfl fI4 (by decide) k_68 rfl ?_
      refine EV_iload_n 2 d_Cod_measure_r_20 rfl rfl ?_
      obtain ⟨hi, H⟩ := H
      refine EV_iald d_Cod_measure_r_21 shC_14 hi ?_
      refine EV_callN (as := [vI (rc.2.1 0 x2)]) (st := []) d_Cod_measure_r_22 k_592 k_593 k_1 k_594 pd_84 ⟨by decide, by decide, Nat.le_of_ble_eq_true rfl⟩ rfl (ct_P_argumentsOf H (fun r_1 H => ?_))
      refine EV_istore (lv' := [(0, vR 13), (1, vI x1), (2, vI x2), (3, vI (x2 + 1)), (4, vI r_1)]) [1, 2, 3, 4, 0] d_Cod_measure_r_25 (by decide) rfl ?_
      refine EV_iconst d_Cod_measure_r_27 ⟨by decide, by decide⟩ ?_
      refine EV_istore (lv' := [(0, vR 13), (1, vI x1), (2, vI x2), (3, vI (x2 + 1)), (4, vI r_1), (5, vI 0)]) [1, 2, 3, 4, 5, 0] d_Cod_measure_r_28 (by decide) rfl ?_
      obtain ⟨n, H⟩ := H
      exact ct_Cod_measure_r_30 (fun x1 x2 rc' H => ih x1 x2 rc' H) hK n x1 x2 (x2 + 1) r_1 0 rc H
theorem ct_Cod_measure_r {l : Launch} {o0 o1 o2 o3 rc o5 o6 o7 o8 o9 o10 : Ob} {x1 : Int} {K : Ob → Prop} {K' : Option AV → List AC → Prop} (H : wp_Cod_measure_r x1 rc K) (hK : ∀ (rc' : Ob), K rc' → K' none (shC o0 o1 o2 o3 rc' o5 o6 o7 o8 o9 o10)) : MT l ⟨"PrunedSearch$Code", "measure", "(I)V"⟩ prog_4_method_6_code 6 none 1 [vR 13, vI x1] (shC o0 o1 o2 o3 rc o5 o6 o7 o8 o9 o10) K' := by
  unfold wp_Cod_measure_r at H
  refine MT_of (lv := [(0, vR 13), (1, vI x1)]) rfl rfl (Nat.le_of_ble_eq_true rfl) rfl ?_
  refine EV_aload_n 0 d_Cod_measure_r_0 rfl rfl ?_
  refine EV_get (j := 3) d_Cod_measure_r_1 shC_13 rfl fI4 (by decide) k_71 rfl ?_
  refine EV_iconst d_Cod_measure_r_4 ⟨by decide, by decide⟩ ?_
  obtain ⟨hr, H⟩ := H
  refine EV_isub d_Cod_measure_r_5 hr ?_
  refine EV_istore_n (lv' := [(0, vR 13), (1, vI x1), (2, vI ((rc.1 0) - 1))]) [1, 2, 0] d_Cod_measure_r_6 rfl (by decide) rfl ?_
  obtain ⟨n, H⟩ := H
  exact ct_Cod_measure_r_7 hK n x1 ((rc.1 0) - 1) rc H
theorem ct_Cod_endPart_r_37 {l : Launch} {o0 o1 o2 o3 o5 o6 o7 o8 o9 o10 : Ob} {K : Ob → Prop} {K' : Option AV → List AC → Prop} {rc : Ob} (H : Cod_endPart_r_37 rc K) (hK : ∀ (rc' : Ob), K rc' → K' none (shC o0 o1 o2 o3 rc' o5 o6 o7 o8 o9 o10)) : EV l prog_4_method_5_code "PrunedSearch$Code" 1 none 2 37 [(0, vR 13)] [] (shC o0 o1 o2 o3 rc o5 o6 o7 o8 o9 o10) K' := by
  refine EV_aload_n 0 d_Cod_endPart_r_37 rfl rfl ?_
  refine EV_dup d_Cod_endPart_r_38 rfl ?_
  refine EV_get (j := 4) d_Cod_endPart_r_39 shC_13 rfl fI4 (by decide) k_72 rfl ?_
  refine EV_iconst d_Cod_endPart_r_42 ⟨by decide, by decide⟩ ?_
  obtain ⟨hr, H⟩ := H
  refine EV_iadd d_Cod_endPart_r_43 hr ?_
  refine EV_put (j := 4) d_Cod_endPart_r_44 shC_13 rfl fI4 fO4 fN4 (by decide) k_72 rfl rfl (fun ad => nf_int ad _) (Nat.le_of_ble_eq_true rfl) shC_13_4 ?_
  exact EV_vret d_Cod_endPart_r_47 rfl (hK _ H)
theorem ct_Cod_endPart_r {l : Launch} {o0 o1 o2 o3 rc o5 o6 o7 o8 o9 o10 : Ob} {K : Ob → Prop} {K' : Option AV → List AC → Prop} (H : wp_Cod_endPart_r rc K) (hK : ∀ (rc' : Ob), K rc' → K' none (shC o0 o1 o2 o3 rc' o5 o6 o7 o8 o9 o10)) : MT l ⟨"PrunedSearch$Code", "endPart", "()V"⟩ prog_4_method_5_code 1 none 2 [vR 13] (shC o0 o1 o2 o3 rc o5 o6 o7 o8 o9 o10) K' := by
  unfold wp_Cod_endPart_r at H
  refine MT_of (lv := [(0, vR 13)]) rfl rfl (Nat.le_of_ble_eq_true rfl) rfl ?_
  refine EV_aload_n 0 d_Cod_endPart_r_0 rfl rfl ?_
  refine EV_get (j := 4) d_Cod_endPart_r_1 shC_13 rfl fI4 (by decide) k_72 rfl ?_
  refine EV_aload_n 0 d_Cod_endPart_r_4 rfl rfl ?_
  refine EV_get (j := 2) d_Cod_endPart_r_5 shC_13 rfl fI4 (by decide) k_70 rfl ?_
  refine EV_alen (t := 0) (by decide) d_Cod_endPart_r_8 shC_16 (by decide) ?_
  refine EV_icmp_ge (tgt := 37) d_Cod_endPart_r_9 (by decide) (fun hc => ?_) (fun hc => ?_)
  · have H := H.1 hc
    exact ct_Cod_endPart_r_37 H hK
  · have H := H.2 hc
    refine EV_aload_n 0 d_Cod_endPart_r_12 rfl rfl ?_
    refine EV_get (j := 2) d_Cod_endPart_r_13 shC_13 rfl fI4 (by decide) k_70 rfl ?_
    refine EV_aload_n 0 d_Cod_endPart_r_16 rfl rfl ?_
    refine EV_get (j := 4) d_Cod_endPart_r_17 shC_13 rfl fI4 (by decide) k_72 rfl ?_
    refine EV_aload_n 0 d_Cod_endPart_r_20 rfl rfl ?_
    refine EV_get (j := 3) d_Cod_endPart_r_21 shC_13 rfl fI4 (by decide) k_71 rfl ?_
    obtain ⟨hi, H⟩ := H
    refine EV_iast d_Cod_endPart_r_24 shC_16 hi shC_16_s ?_
    refine EV_aload_n 0 d_Cod_endPart_r_25 rfl rfl ?_
    refine EV_aload_n 0 d_Cod_endPart_r_26 rfl rfl ?_
    refine EV_aload_n 0 d_Cod_endPart_r_27 rfl rfl ?_
    refine EV_get (j := 4) d_Cod_endPart_r_28 shC_13 rfl fI4 (by decide) k_72 rfl ?_
    refine EV_callV (as := [vI (rc.1 1)]) (st := [vR 13]) d_Cod_endPart_r_31 k_580 k_581 k_582 k_4 k_583 shC_13 rfl pd_83 ⟨by decide, by decide, Nat.le_of_ble_eq_true rfl⟩ rfl (ct_Cod_startOf_r H (fun r_1 H => ?_))
    refine EV_callV (as := [vI r_1]) (st := []) d_Cod_endPart_r_34 k_588 k_590 kp_15 k_4 k_591 shC_13 rfl pd_85 ⟨by decide, by decide, Nat.le_of_ble_eq_true rfl⟩ rfl (ct_Cod_measure_r H (fun rc_2 H => ?_))
    exact ct_Cod_endPart_r_37 H hK
theorem ct_Rd_endPart_63 {l : Launch} {o0 tk o2 o3 o6 o7 o8 o9 o10 : Ob} {K : Int → Ob → Ob → Prop} {K' : Option AV → List AC → Prop} {s0 : Int} {s1 : Int} {rc rd : Ob} (H : Rd_endPart_63 s0 s1 tk rc rd K) (hK : ∀ (r : Int) (rc' rd' : Ob), K r rc' rd' → K' (some (vI r)) (shC o0 tk o2 o3 rc' rd' o6 o7 o8 o9 o10)) : EV l prog_3_method_8_code "PrunedSearch$ClauseReader" 1 (some .boolean) 3 63 [(0, vR 17)] [vI s0, vI s1, vR 17] (shC o0 tk o2 o3 rc rd o6 o7 o8 o9 o10) K' := by
  obtain ⟨h0, h1, H⟩ := H
  refine EV_ior d_Rd_endPart_63 h0 h1 ?_
  obtain ⟨hb, H⟩ := H
  refine EV_put (j := 9) d_Rd_endPart_64 shC_17 rfl fI5 fO5 fN5 (by decide) k_121 rfl rfl (fun ad => nf_bool ad hb) (Nat.le_of_ble_eq_true rfl) shC_17_9 ?_
  refine EV_aload_n 0 d_Rd_endPart_67 rfl rfl ?_
  refine EV_get (j := 2) d_Rd_endPart_68 shC_17 rfl fI5 (by decide) k_114 rfl ?_
  refine EV_callV (as := []) (st := []) d_Rd_endPart_71 k_584 k_585 k_586 k_4 k_587 shC_13 rfl pd_86 ⟨by decide, by decide, Nat.le_of_ble_eq_true rfl⟩ rfl (ct_Cod_endPart_r H (fun rc_5 H => ?_))
  refine EV_iconst d_Rd_endPart_74 ⟨by decide, by decide⟩ ?_
  exact EV_iret d_Rd_endPart_75 rfl (nw_bool (by decide)) (hK _ _ _ H)
theorem ct_Rd_endPart_40 {l : Launch} {o0 tk o2 o3 o6 o7 o8 o9 o10 : Ob} {K : Int → Ob → Ob → Prop} {K' : Option AV → List AC → Prop} {s0 : Int} {s1 : Int} {rc rd : Ob} (H : Rd_endPart_40 s0 s1 tk rc rd K) (hK : ∀ (r : Int) (rc' rd' : Ob), K r rc' rd' → K' (some (vI r)) (shC o0 tk o2 o3 rc' rd' o6 o7 o8 o9 o10)) : EV l prog_3_method_8_code "PrunedSearch$ClauseReader" 1 (some .boolean) 3 40 [(0, vR 17)] [vI s0, vI s1, vR 17] (shC o0 tk o2 o3 rc rd o6 o7 o8 o9 o10) K' := by
  obtain ⟨h0, h1, H⟩ := H
  refine EV_ior d_Rd_endPart_40 h0 h1 ?_
  obtain ⟨hb, H⟩ := H
  refine EV_put (j := 9) d_Rd_endPart_41 shC_17 rfl fI5 fO5 fN5 (by decide) k_121 rfl rfl (fun ad => nf_bool ad hb) (Nat.le_of_ble_eq_true rfl) shC_17_9 ?_
  refine EV_aload_n 0 d_Rd_endPart_44 rfl rfl ?_
  refine EV_dup d_Rd_endPart_45 rfl ?_
  refine EV_get (j := 9) d_Rd_endPart_46 shC_17 rfl fI5 (by decide) k_121 rfl ?_
  refine EV_aload_n 0 d_Rd_endPart_49 rfl rfl ?_
  refine EV_get (j := 6) d_Rd_endPart_50 shC_17 rfl fI5 (by decide) k_118 rfl ?_
  refine EV_bipush d_Rd_endPart_53 (by decide +kernel) ⟨by decide, by decide⟩ ?_
  refine EV_icmp_le (tgt := 62) d_Rd_endPart_55 (by decide) (fun hc => ?_) (fun hc => ?_)
  · have H := H.1 hc
    refine EV_iconst d_Rd_endPart_62 ⟨by decide, by decide⟩ ?_
    exact ct_Rd_endPart_63 H hK
  · have H := H.2 hc
    refine EV_iconst d_Rd_endPart_58 ⟨by decide, by decide⟩ ?_
    refine EV_goto (tgt := 63) d_Rd_endPart_59 (by decide) ?_
    exact ct_Rd_endPart_63 H hK
theorem ct_Rd_endPart {l : Launch} {o0 tk o2 o3 rc rd o6 o7 o8 o9 o10 : Ob} {K : Int → Ob → Ob → Prop} {K' : Option AV → List AC → Prop} (H : wp_Rd_endPart tk rc rd K) (hK : ∀ (r : Int) (rc' rd' : Ob), K r rc' rd' → K' (some (vI r)) (shC o0 tk o2 o3 rc' rd' o6 o7 o8 o9 o10)) : MT l ⟨"PrunedSearch$ClauseReader", "endPart", "()Z"⟩ prog_3_method_8_code 1 (some .boolean) 3 [vR 17] (shC o0 tk o2 o3 rc rd o6 o7 o8 o9 o10) K' := by
  unfold wp_Rd_endPart at H
  refine MT_of (lv := [(0, vR 17)]) rfl rfl (Nat.le_of_ble_eq_true rfl) rfl ?_
  refine EV_aload_n 0 d_Rd_endPart_0 rfl rfl ?_
  refine EV_bipush d_Rd_endPart_1 (by decide +kernel) ⟨by decide, by decide⟩ ?_
  refine EV_callV (as := [vI 46]) (st := []) d_Rd_endPart_3 k_554 k_556 kp_11 k_5 k_557 shC_17 rfl pd_72 ⟨by decide, by decide, Nat.le_of_ble_eq_true rfl⟩ rfl (ct_Rd_accept H (fun r_2 rd_1 H => ?_))
  refine EV_if_ne (tgt := 11) d_Rd_endPart_6 (by decide) (fun hc => ?_) (fun hc => ?_)
  · have H := H.1 hc
    refine EV_aload_n 0 d_Rd_endPart_11 rfl rfl ?_
    refine EV_dup d_Rd_endPart_12 rfl ?_
    refine EV_get (j := 9) d_Rd_endPart_13 shC_17 rfl fI5 (by decide) k_121 rfl ?_
    refine EV_aload_n 0 d_Rd_endPart_16 rfl rfl ?_
    refine EV_get (j := 2) d_Rd_endPart_17 shC_17 rfl fI5 (by decide) k_114 rfl ?_
    refine EV_aload_n 0 d_Rd_endPart_20 rfl rfl ?_
    refine EV_get (j := 2) d_Rd_endPart_21 shC_17 rfl fI5 (by decide) k_114 rfl ?_
    refine EV_callV (as := []) (st := [vR 13, vI (rd_1.1 5), vR 17]) d_Rd_endPart_24 k_575 k_468 k_469 k_4 k_470 shC_13 rfl pd_88 ⟨by decide, by decide, Nat.le_of_ble_eq_true rfl⟩ rfl (ct_Cod_partCount_r H (fun r_3 H => ?_))
    refine EV_callV (as := [vI r_3]) (st := [vI (rd_1.1 5), vR 17]) d_Rd_endPart_27 k_576 k_577 k_578 k_4 k_579 shC_13 rfl pd_87 ⟨by decide, by decide, Nat.le_of_ble_eq_true rfl⟩ rfl (ct_Cod_symbolsSince_r H (fun r_4 H => ?_))
    refine EV_bipush d_Rd_endPart_30 (by decide +kernel) ⟨by decide, by decide⟩ ?_
    refine EV_icmp_le (tgt := 39) d_Rd_endPart_32 (by decide) (fun hc => ?_) (fun hc => ?_)
    · have H := H.1 hc
      refine EV_iconst d_Rd_endPart_39 ⟨by decide, by decide⟩ ?_
      exact ct_Rd_endPart_40 H hK
    · have H := H.2 hc
      refine EV_iconst d_Rd_endPart_35 ⟨by decide, by decide⟩ ?_
      refine EV_goto (tgt := 40) d_Rd_endPart_36 (by decide) ?_
      exact ct_Rd_endPart_40 H hK
  · have H := H.2 hc
    refine EV_iconst d_Rd_endPart_9 ⟨by decide, by decide⟩ ?_
    exact EV_iret d_Rd_endPart_10 rfl (nw_bool (by decide)) (hK _ _ _ H)
theorem ct_Rd_readClause_40 {l : Launch} {o0 tk o3 o6 o7 o8 o9 o10 : Ob} {K : Int → Ob → Ob → Ob → Prop} {K' : Option AV → List AC → Prop} {nm rc rd : Ob} (H : Rd_readClause_40 tk nm rc rd K) (hK : ∀ (r : Int) (nm' rc' rd' : Ob), K r nm' rc' rd' → K' (some (vI r)) (shC o0 tk nm' o3 rc' rd' o6 o7 o8 o9 o10)) : EV l prog_3_method_9_code "PrunedSearch$ClauseReader" 1 (some .boolean) 42 40 [(0, vR 17)] [] (shC o0 tk nm o3 rc rd o6 o7 o8 o9 o10) K' := by
  refine EV_aload_n 0 d_Rd_readClause_40 rfl rfl ?_
  refine EV_callV (as := []) (st := []) d_Rd_readClause_41 k_571 k_573 kp_14 k_5 k_574 shC_17 rfl pd_89 ⟨by decide, by decide, Nat.le_of_ble_eq_true rfl⟩ rfl (ct_Rd_endPart H (fun r_11 rc_9 rd_10 H => ?_))
  obtain ⟨hb, H⟩ := H
  exact EV_iret d_Rd_readClause_44 rfl (nw_bool hb) (hK _ _ _ _ H)
theorem ct_Rd_readClause {l : Launch} {o0 tk nm o3 rc rd o6 o7 o8 o9 o10 : Ob} {K : Int → Ob → Ob → Ob → Prop} {K' : Option AV → List AC → Prop} (H : wp_Rd_readClause tk nm rc rd K) (hK : ∀ (r : Int) (nm' rc' rd' : Ob), K r nm' rc' rd' → K' (some (vI r)) (shC o0 tk nm' o3 rc' rd' o6 o7 o8 o9 o10)) : MT l ⟨"PrunedSearch$ClauseReader", "readClause", "()Z"⟩ prog_3_method_9_code 1 (some .boolean) 42 [vR 17] (shC o0 tk nm o3 rc rd o6 o7 o8 o9 o10) K' := by
  unfold wp_Rd_readClause at H
  refine MT_of (lv := [(0, vR 17)]) rfl rfl (Nat.le_of_ble_eq_true rfl) rfl ?_
  refine EV_aload_n 0 d_Rd_readClause_0 rfl rfl ?_
  refine EV_callV (as := []) (st := []) d_Rd_readClause_1 k_509 k_511 kp_4 k_5 k_512 shC_17 rfl pd_68 ⟨by decide, by decide, Nat.le_of_ble_eq_true rfl⟩ rfl (ct_Rd_startPart H (fun rd_1 H => ?_))
  refine EV_aload_n 0 d_Rd_readClause_4 rfl rfl ?_
  refine EV_bipush d_Rd_readClause_5 (by decide +kernel) ⟨by decide, by decide⟩ ?_
  refine EV_callV (as := [vI 97]) (st := []) d_Rd_readClause_7 k_513 k_515 kp_5 k_5 k_516 shC_17 rfl pd_77 ⟨by decide, by decide, Nat.le_of_ble_eq_true rfl⟩ rfl (ct_Rd_isAt H (fun r_2 H => ?_))
  refine EV_if_eq (tgt := 20) d_Rd_readClause_10 (by decide) (fun hc => ?_) (fun hc => ?_)
  · have H := H.1 hc
    refine EV_iconst d_Rd_readClause_20 ⟨by decide, by decide⟩ ?_
    exact EV_iret d_Rd_readClause_21 rfl (nw_bool (by decide)) (hK _ _ _ _ H)
  · have H := H.2 hc
    refine EV_aload_n 0 d_Rd_readClause_13 rfl rfl ?_
    refine EV_callV (as := []) (st := []) d_Rd_readClause_14 k_525 k_527 kp_7 k_5 k_528 shC_17 rfl pd_74 ⟨by decide, by decide, Nat.le_of_ble_eq_true rfl⟩ rfl (ct_Rd_readTerm 16 H (fun r_6 nm_3 rc_4 rd_5 H => ?_))
    refine EV_if_ne (tgt := 22) d_Rd_readClause_17 (by decide) (fun hc => ?_) (fun hc => ?_)
    · have H := H.1 hc
      refine EV_aload_n 0 d_Rd_readClause_22 rfl rfl ?_
      refine EV_bipush d_Rd_readClause_23 (by decide +kernel) ⟨by decide, by decide⟩ ?_
      refine EV_callV (as := [vI 58]) (st := []) d_Rd_readClause_25 k_554 k_556 kp_11 k_5 k_557 shC_17 rfl pd_72 ⟨by decide, by decide, Nat.le_of_ble_eq_true rfl⟩ rfl (ct_Rd_accept H (fun r_8 rd_7 H => ?_))
      refine EV_if_eq (tgt := 40) d_Rd_readClause_28 (by decide) (fun hc => ?_) (fun hc => ?_)
      · have H := H.1 hc
        exact ct_Rd_readClause_40 H hK
      · have H := H.2 hc
        refine EV_aload_n 0 d_Rd_readClause_31 rfl rfl ?_
        refine EV_callV (as := []) (st := []) d_Rd_readClause_32 k_567 k_569 kp_13 k_5 k_570 shC_17 rfl pd_90 ⟨by decide, by decide, Nat.le_of_ble_eq_true rfl⟩ rfl (ct_Rd_readGoals H (fun r_15 nm_12 rc_13 rd_14 H => ?_))
        refine EV_if_ne (tgt := 40) d_Rd_readClause_35 (by decide) (fun hc => ?_) (fun hc => ?_)
        · have H := H.1 hc
          exact ct_Rd_readClause_40 H hK
        · have H := H.2 hc
          refine EV_iconst d_Rd_readClause_38 ⟨by decide, by decide⟩ ?_
          exact EV_iret d_Rd_readClause_39 rfl (nw_bool (by decide)) (hK _ _ _ _ H)
    · have H := H.2 hc
      refine EV_iconst d_Rd_readClause_20 ⟨by decide, by decide⟩ ?_
      exact EV_iret d_Rd_readClause_21 rfl (nw_bool (by decide)) (hK _ _ _ _ H)
theorem ct_Nam_areTooMany {l : Launch} {o0 o1 nm o3 o4 o5 o6 o7 o8 o9 o10 : Ob} {K : Int → Prop} {K' : Option AV → List AC → Prop} (H : wp_Nam_areTooMany nm K) (hK : ∀ (r : Int), K r → K' (some (vI r)) (shC o0 o1 nm o3 o4 o5 o6 o7 o8 o9 o10)) : MT l ⟨"PrunedSearch$Names", "areTooMany", "()Z"⟩ prog_6_method_4_code 1 (some .boolean) 0 [vR 7] (shC o0 o1 nm o3 o4 o5 o6 o7 o8 o9 o10) K' := by
  unfold wp_Nam_areTooMany at H
  refine MT_of (lv := [(0, vR 7)]) rfl rfl (Nat.le_of_ble_eq_true rfl) rfl ?_
  refine EV_aload_n 0 d_Nam_areTooMany_0 rfl rfl ?_
  refine EV_get (j := 3) d_Nam_areTooMany_1 shC_7 rfl fI3 (by decide) k_51 rfl ?_
  obtain ⟨hb, H⟩ := H
  exact EV_iret d_Nam_areTooMany_4 rfl (nw_bool hb) (hK _ H)
theorem ct_Nam_keep {l : Launch} {o0 o1 nm o3 o4 o5 o6 o7 o8 o9 o10 : Ob} {K : Ob → Prop} {K' : Option AV → List AC → Prop} (H : wp_Nam_keep nm K) (hK : ∀ (nm' : Ob), K nm' → K' none (shC o0 o1 nm' o3 o4 o5 o6 o7 o8 o9 o10)) : MT l ⟨"PrunedSearch$Names", "keep", "()V"⟩ prog_6_method_5_code 1 none 0 [vR 7] (shC o0 o1 nm o3 o4 o5 o6 o7 o8 o9 o10) K' := by
  unfold wp_Nam_keep at H
  refine MT_of (lv := [(0, vR 7)]) rfl rfl (Nat.le_of_ble_eq_true rfl) rfl ?_
  refine EV_aload_n 0 d_Nam_keep_0 rfl rfl ?_
  refine EV_aload_n 0 d_Nam_keep_1 rfl rfl ?_
  refine EV_get (j := 2) d_Nam_keep_2 shC_7 rfl fI3 (by decide) k_50 rfl ?_
  refine EV_put (j := 1) d_Nam_keep_5 shC_7 rfl fI3 fO3 fN3 (by decide) k_49 rfl rfl (fun ad => nf_int ad _) (Nat.le_of_ble_eq_true rfl) shC_7_1 ?_
  exact EV_vret d_Nam_keep_8 rfl (hK _ H)
theorem ct_Nam_drop {l : Launch} {o0 o1 nm o3 o4 o5 o6 o7 o8 o9 o10 : Ob} {K : Ob → Prop} {K' : Option AV → List AC → Prop} (H : wp_Nam_drop nm K) (hK : ∀ (nm' : Ob), K nm' → K' none (shC o0 o1 nm' o3 o4 o5 o6 o7 o8 o9 o10)) : MT l ⟨"PrunedSearch$Names", "drop", "()V"⟩ prog_6_method_6_code 1 none 0 [vR 7] (shC o0 o1 nm o3 o4 o5 o6 o7 o8 o9 o10) K' := by
  unfold wp_Nam_drop at H
  refine MT_of (lv := [(0, vR 7)]) rfl rfl (Nat.le_of_ble_eq_true rfl) rfl ?_
  refine EV_aload_n 0 d_Nam_drop_0 rfl rfl ?_
  refine EV_aload_n 0 d_Nam_drop_1 rfl rfl ?_
  refine EV_get (j := 1) d_Nam_drop_2 shC_7 rfl fI3 (by decide) k_49 rfl ?_
  refine EV_put (j := 2) d_Nam_drop_5 shC_7 rfl fI3 fO3 fN3 (by decide) k_50 rfl rfl (fun ad => nf_int ad _) (Nat.le_of_ble_eq_true rfl) shC_7_2 ?_
  refine EV_aload_n 0 d_Nam_drop_8 rfl rfl ?_
  refine EV_iconst d_Nam_drop_9 ⟨by decide, by decide⟩ ?_
  refine EV_put (j := 3) d_Nam_drop_10 shC_7 rfl fI3 fO3 fN3 (by decide) k_51 rfl rfl (fun ad => nf_bool ad (by decide)) (Nat.le_of_ble_eq_true rfl) shC_7_3 ?_
  exact EV_vret d_Nam_drop_13 rfl (hK _ H)
theorem ct_Tok_placeAt {l : Launch} {o0 tk o2 o3 o4 o5 o6 o7 o8 o9 o10 : Ob} {x1 : Int} {K : Int → Prop} {K' : Option AV → List AC → Prop} (H : wp_Tok_placeAt x1 tk K) (hK : ∀ (r : Int), K r → K' (some (vI r)) (shC o0 tk o2 o3 o4 o5 o6 o7 o8 o9 o10)) : MT l ⟨"PrunedSearch$Tokens", "placeAt", "(I)I"⟩ prog_11_method_7_code 2 (some .int) 0 [vR 3, vI x1] (shC o0 tk o2 o3 o4 o5 o6 o7 o8 o9 o10) K' := by
  unfold wp_Tok_placeAt at H
  refine MT_of (lv := [(0, vR 3), (1, vI x1)]) rfl rfl (Nat.le_of_ble_eq_true rfl) rfl ?_
  refine EV_iload_n 1 d_Tok_placeAt_0 rfl rfl ?_
  refine EV_if_lt (tgt := 21) d_Tok_placeAt_1 (by decide) (fun hc => ?_) (fun hc => ?_)
  · have H := H.1 hc
    refine EV_iconst d_Tok_placeAt_21 ⟨by decide, by decide⟩ ?_
    exact EV_iret d_Tok_placeAt_22 rfl (nw_int _) (hK _ H)
  · have H := H.2 hc
    refine EV_iload_n 1 d_Tok_placeAt_4 rfl rfl ?_
    refine EV_aload_n 0 d_Tok_placeAt_5 rfl rfl ?_
    refine EV_get (j := 3) d_Tok_placeAt_6 shC_3 rfl fI2 (by decide) k_100 rfl ?_
    refine EV_icmp_ge (tgt := 21) d_Tok_placeAt_9 (by decide) (fun hc => ?_) (fun hc => ?_)
    · have H := H.1 hc
      refine EV_iconst d_Tok_placeAt_21 ⟨by decide, by decide⟩ ?_
      exact EV_iret d_Tok_placeAt_22 rfl (nw_int _) (hK _ H)
    · have H := H.2 hc
      refine EV_aload_n 0 d_Tok_placeAt_12 rfl rfl ?_
      refine EV_get (j := 1) d_Tok_placeAt_13 shC_3 rfl fI2 (by decide) k_98 rfl ?_
      refine EV_iload_n 1 d_Tok_placeAt_16 rfl rfl ?_
      obtain ⟨hi, H⟩ := H
      refine EV_iald d_Tok_placeAt_17 shC_5 hi ?_
      refine EV_goto (tgt := 22) d_Tok_placeAt_18 (by decide) ?_
      exact EV_iret d_Tok_placeAt_22 rfl (nw_int _) (hK _ H)
theorem ct_Rd_outcome_36 {l : Launch} {o0 tk o3 o4 o6 o7 o8 o9 o10 : Ob} {K : Int → Ob → Ob → Prop} {K' : Option AV → List AC → Prop} {x1 : Int} {nm rd : Ob} (H : Rd_outcome_36 x1 tk nm rd K) (hK : ∀ (r : Int) (nm' rd' : Ob), K r nm' rd' → K' (some (vI r)) (shC o0 tk nm' o3 o4 rd' o6 o7 o8 o9 o10)) : EV l prog_3_method_6_code "PrunedSearch$ClauseReader" 3 (some .int) 1 36 [(0, vR 17), (1, vI x1)] [] (shC o0 tk nm o3 o4 rd o6 o7 o8 o9 o10) K' := by
  refine EV_aload_n 0 d_Rd_outcome_36 rfl rfl ?_
  refine EV_get (j := 0) d_Rd_outcome_37 shC_17 rfl fI5 (by decide) k_112 rfl ?_
  refine EV_callV (as := []) (st := []) d_Rd_outcome_40 k_607 k_608 k_609 k_3 k_610 shC_7 rfl pd_92 ⟨by decide, by decide, Nat.le_of_ble_eq_true rfl⟩ rfl (ct_Nam_drop H (fun nm_2 H => ?_))
  refine EV_iload_n 1 d_Rd_outcome_43 rfl rfl ?_
  refine EV_if_eq (tgt := 53) d_Rd_outcome_44 (by decide) (fun hc => ?_) (fun hc => ?_)
  · have H := H.1 hc
    refine EV_iconst d_Rd_outcome_53 ⟨by decide, by decide⟩ ?_
    refine EV_aload_n 0 d_Rd_outcome_54 rfl rfl ?_
    refine EV_get (j := 1) d_Rd_outcome_55 shC_17 rfl fI5 (by decide) k_113 rfl ?_
    refine EV_aload_n 0 d_Rd_outcome_58 rfl rfl ?_
    refine EV_get (j := 8) d_Rd_outcome_59 shC_17 rfl fI5 (by decide) k_120 rfl ?_
    refine EV_callV (as := [vI (rd.1 4)]) (st := [vI (-1)]) d_Rd_outcome_62 k_611 k_612 k_613 k_6 k_614 shC_3 rfl pd_91 ⟨by decide, by decide, Nat.le_of_ble_eq_true rfl⟩ rfl (ct_Tok_placeAt H (fun r_3 H => ?_))
    obtain ⟨hr, H⟩ := H
    refine EV_isub d_Rd_outcome_65 hr ?_
    exact EV_iret d_Rd_outcome_66 rfl (nw_int _) (hK _ _ _ H)
  · have H := H.2 hc
    refine EV_sipush d_Rd_outcome_47 (by decide +kernel) ⟨by decide, by decide⟩ ?_
    refine EV_goto (tgt := 66) d_Rd_outcome_50 (by decide) ?_
    exact EV_iret d_Rd_outcome_66 rfl (nw_int _) (hK _ _ _ H)
theorem ct_Rd_outcome {l : Launch} {o0 tk nm o3 o4 rd o6 o7 o8 o9 o10 : Ob} {x1 : Int} {x2 : Int} {K : Int → Ob → Ob → Prop} {K' : Option AV → List AC → Prop} (H : wp_Rd_outcome x1 x2 tk nm rd K) (hK : ∀ (r : Int) (nm' rd' : Ob), K r nm' rd' → K' (some (vI r)) (shC o0 tk nm' o3 o4 rd' o6 o7 o8 o9 o10)) : MT l ⟨"PrunedSearch$ClauseReader", "outcome", "(ZI)I"⟩ prog_3_method_6_code 3 (some .int) 1 [vR 17, vI x1, vI x2] (shC o0 tk nm o3 o4 rd o6 o7 o8 o9 o10) K' := by
  unfold wp_Rd_outcome at H
  refine MT_of (lv := [(0, vR 17), (1, vI x1), (2, vI x2)]) rfl rfl (Nat.le_of_ble_eq_true rfl) rfl ?_
  refine EV_aload_n 0 d_Rd_outcome_0 rfl rfl ?_
  refine EV_dup d_Rd_outcome_1 rfl ?_
  refine EV_get (j := 9) d_Rd_outcome_2 shC_17 rfl fI5 (by decide) k_121 rfl ?_
  refine EV_aload_n 0 d_Rd_outcome_5 rfl rfl ?_
  refine EV_get (j := 0) d_Rd_outcome_6 shC_17 rfl fI5 (by decide) k_112 rfl ?_
  refine EV_callV (as := []) (st := [vI (rd.1 5), vR 17]) d_Rd_outcome_9 k_599 k_600 k_601 k_3 k_602 shC_7 rfl pd_94 ⟨by decide, by decide, Nat.le_of_ble_eq_true rfl⟩ rfl (ct_Nam_areTooMany H (fun r_1 H => ?_))
  obtain ⟨h0, h1, H⟩ := H
  refine EV_ior d_Rd_outcome_12 h0 h1 ?_
  obtain ⟨hb, H⟩ := H
  refine EV_put (j := 9) d_Rd_outcome_13 shC_17 rfl fI5 fO5 fN5 (by decide) k_121 rfl rfl (fun ad => nf_bool ad hb) (Nat.le_of_ble_eq_true rfl) shC_17_9 ?_
  refine EV_iload_n 1 d_Rd_outcome_16 rfl rfl ?_
  refine EV_if_eq (tgt := 36) d_Rd_outcome_17 (by decide) (fun hc => ?_) (fun hc => ?_)
  · have H := H.1 hc
    refine EV_lv (lv' := [(0, vR 17), (1, vI x1)]) [0, 1] rfl ?_
    exact ct_Rd_outcome_36 H hK
  · have H := H.2 hc
    refine EV_aload_n 0 d_Rd_outcome_20 rfl rfl ?_
    refine EV_get (j := 9) d_Rd_outcome_21 shC_17 rfl fI5 (by decide) k_121 rfl ?_
    refine EV_if_ne (tgt := 36) d_Rd_outcome_24 (by decide) (fun hc => ?_) (fun hc => ?_)
    · have H := H.1 hc
      refine EV_lv (lv' := [(0, vR 17), (1, vI x1)]) [0, 1] rfl ?_
      exact ct_Rd_outcome_36 H hK
    · have H := H.2 hc
      refine EV_aload_n 0 d_Rd_outcome_27 rfl rfl ?_
      refine EV_get (j := 0) d_Rd_outcome_28 shC_17 rfl fI5 (by decide) k_112 rfl ?_
      refine EV_callV (as := []) (st := []) d_Rd_outcome_31 k_603 k_604 k_605 k_3 k_606 shC_7 rfl pd_93 ⟨by decide, by decide, Nat.le_of_ble_eq_true rfl⟩ rfl (ct_Nam_keep H (fun nm_4 H => ?_))
      refine EV_iload_n 2 d_Rd_outcome_34 rfl rfl ?_
      exact EV_iret d_Rd_outcome_35 rfl (nw_int _) (hK _ _ _ H)
theorem ct_Rd_readClauses_66 {l : Launch} {tx o3 o6 o7 o8 o9 o10 : Ob} {K : Int → Ob → Ob → Ob → Ob → Prop} {K' : Option AV → List AC → Prop} {x3 : Int} {s0 : Int} {s1 : Int} {tk nm rc rd : Ob} (H : Rd_readClauses_66 x3 s0 s1 tx tk nm rc rd K) (hK : ∀ (r : Int) (tk' nm' rc' rd' : Ob), K r tk' nm' rc' rd' → K' (some (vI r)) (shC tx tk' nm' o3 rc' rd' o6 o7 o8 o9 o10)) : EV l prog_3_method_3_code "PrunedSearch$ClauseReader" 5 (some .int) 43 66 [(0, vR 17), (3, vI x3)] [vI s0, vI s1, vR 17] (shC tx tk nm o3 rc rd o6 o7 o8 o9 o10) K' := by
  obtain ⟨h0, h1, H⟩ := H
  refine EV_ior d_Rd_readClauses_66 h0 h1 ?_
  obtain ⟨hb, H⟩ := H
  refine EV_put (j := 9) d_Rd_readClauses_67 shC_17 rfl fI5 fO5 fN5 (by decide) k_121 rfl rfl (fun ad => nf_bool ad hb) (Nat.le_of_ble_eq_true rfl) shC_17_9 ?_
  refine EV_aload_n 0 d_Rd_readClauses_70 rfl rfl ?_
  refine EV_iload_n 1 d_Rd_readClauses_71 rfl rfl ?_
  refine EV_aload_n 0 d_Rd_readClauses_72 rfl rfl ?_
  refine EV_get (j := 2) d_Rd_readClauses_73 shC_17 rfl fI5 (by decide) k_114 rfl ?_
  refine EV_callV (as := []) (st := [vI x3, vR 17]) d_Rd_readClauses_76 k_575 k_468 k_469 k_4 k_470 shC_13 rfl pd_88 ⟨by decide, by decide, Nat.le_of_ble_eq_true rfl⟩ rfl (ct_Cod_partCount_r H (fun r_5 H => ?_))
  refine EV_callV (as := [vI x3, vI r_5]) (st := []) d_Rd_readClauses_79 k_595 k_597 kp_16 k_5 k_598 shC_17 rfl pd_95 ⟨by decide, by decide, Nat.le_of_ble_eq_true rfl⟩ rfl (ct_Rd_outcome H (fun r_8 nm_6 rd_7 H => ?_))
  exact EV_iret d_Rd_readClauses_82 rfl (nw_int _) (hK _ _ _ _ _ H)
theorem ct_Rd_readClauses_42 {l : Launch} {tx o3 o6 o7 o8 o9 o10 : Ob} {K : Int → Ob → Ob → Ob → Ob → Prop} {K' : Option AV → List AC → Prop} {x2 : Int} {x3 : Int} {tk nm rc rd : Ob} (H : Rd_readClauses_42 x2 x3 tx tk nm rc rd K) (hK : ∀ (r : Int) (tk' nm' rc' rd' : Ob), K r tk' nm' rc' rd' → K' (some (vI r)) (shC tx tk' nm' o3 rc' rd' o6 o7 o8 o9 o10)) : EV l prog_3_method_3_code "PrunedSearch$ClauseReader" 5 (some .int) 43 42 [(0, vR 17), (2, vI x2), (3, vI x3)] [] (shC tx tk nm o3 rc rd o6 o7 o8 o9 o10) K' := by
  refine EV_aload_n 0 d_Rd_readClauses_42 rfl rfl ?_
  refine EV_dup d_Rd_readClauses_43 rfl ?_
  refine EV_get (j := 9) d_Rd_readClauses_44 shC_17 rfl fI5 (by decide) k_121 rfl ?_
  refine EV_iload_n 1 d_Rd_readClauses_47 rfl rfl ?_
  refine EV_aload_n 0 d_Rd_readClauses_48 rfl rfl ?_
  refine EV_get (j := 2) d_Rd_readClauses_49 shC_17 rfl fI5 (by decide) k_114 rfl ?_
  refine EV_callV (as := []) (st := [vI x2, vI (rd.1 5), vR 17]) d_Rd_readClauses_52 k_575 k_468 k_469 k_4 k_470 shC_13 rfl pd_88 ⟨by decide, by decide, Nat.le_of_ble_eq_true rfl⟩ rfl (ct_Cod_partCount_r H (fun r_4 H => ?_))
  obtain ⟨hr, H⟩ := H
  refine EV_iadd d_Rd_readClauses_55 hr ?_
  refine EV_bipush d_Rd_readClauses_56 (by decide +kernel) ⟨by decide, by decide⟩ ?_
  refine EV_icmp_le (tgt := 65) d_Rd_readClauses_58 (by decide) (fun hc => ?_) (fun hc => ?_)
  · have H := H.1 hc
    refine EV_iconst d_Rd_readClauses_65 ⟨by decide, by decide⟩ ?_
    refine EV_lv (lv' := [(0, vR 17), (3, vI x3)]) [0, 2] rfl ?_
    exact ct_Rd_readClauses_66 H hK
  · have H := H.2 hc
    refine EV_iconst d_Rd_readClauses_61 ⟨by decide, by decide⟩ ?_
    refine EV_goto (tgt := 66) d_Rd_readClauses_62 (by decide) ?_
    refine EV_lv (lv' := [(0, vR 17), (3, vI x3)]) [0, 2] rfl ?_
    exact ct_Rd_readClauses_66 H hK
theorem ct_Rd_readClauses_10 {l : Launch} {tx o3 o6 o7 o8 o9 o10 : Ob} {K : Int → Ob → Ob → Ob → Ob → Prop} {K' : Option AV → List AC → Prop} (hK : ∀ (r : Int) (tk' nm' rc' rd' : Ob), K r tk' nm' rc' rd' → K' (some (vI r)) (shC tx tk' nm' o3 rc' rd' o6 o7 o8 o9 o10)) : ∀ (n : Nat) (x2 : Int) (x3 : Int) (x4 : Int) (tk nm rc rd : Ob), Rd_readClauses_10 n x2 x3 x4 tx tk nm rc rd K → EV l prog_3_method_3_code "PrunedSearch$ClauseReader" 5 (some .int) 43 10 [(0, vR 17), (2, vI x2), (3, vI x3), (4, vI x4)] [] (shC tx tk nm o3 rc rd o6 o7 o8 o9 o10) K' := by
  intro n
  induction n with
  | zero =>
    intro x2 x3 x4 tk nm rc rd H
    exact H.elim
  | succ n ih =>
    intro x2 x3 x4 tk nm rc rd H
    refine EV_iload 3 d_Rd_readClauses_10 rfl ?_
    refine EV_sipush d_Rd_readClauses_12 (by decide +kernel) ⟨by decide, by decide⟩ ?_
    refine EV_icmp_ge (tgt := 42) d_Rd_readClauses_15 (by decide) (fun hc => ?_) (fun hc => ?_)
    · have H := H.1 hc
      refine EV_lv (lv' := [(0, vR 17), (2, vI x2), (3, vI x3)]) [0, 1, 2] rfl ?_
      exact ct_Rd_readClauses_42 H hK
    · have H := H.2 hc
      refine EV_iload_n 2 d_Rd_readClauses_18 rfl rfl ?_
      refine EV_if_eq (tgt := 42) d_Rd_readClauses_19 (by decide) (fun hc => ?_) (fun hc => ?_)
      · have H := H.1 hc
        refine EV_lv (lv' := [(0, vR 17), (2, vI x2), (3, vI x3)]) [0, 1, 2] rfl ?_
        exact ct_Rd_readClauses_42 H hK
      · have H := H.2 hc
        refine EV_aload_n 0 d_Rd_readClauses_22 rfl rfl ?_
        refine EV_bipush d_Rd_readClauses_23 (by decide +kernel) ⟨by decide, by decide⟩ ?_
        refine EV_callV (as := [vI 32]) (st := []) d_Rd_readClauses_25 k_513 k_515 kp_5 k_5 k_516 shC_17 rfl pd_77 ⟨by decide, by decide, Nat.le_of_ble_eq_true rfl⟩ rfl (ct_Rd_isAt H (fun r_9 H => ?_))
        refine EV_if_ne (tgt := 42) d_Rd_readClauses_28 (by decide) (fun hc => ?_) (fun hc => ?_)
        · have H := H.1 hc
          refine EV_lv (lv' := [(0, vR 17), (2, vI x2), (3, vI x3)]) [0, 1, 2] rfl ?_
          exact ct_Rd_readClauses_42 H hK
        · have H := H.2 hc
          refine EV_aload_n 0 d_Rd_readClauses_31 rfl rfl ?_
          refine EV_callV (as := []) (st := []) d_Rd_readClauses_32 k_521 k_523 kp_6 k_5 k_524 shC_17 rfl pd_96 ⟨by decide, by decide, Nat.le_of_ble_eq_true rfl⟩ rfl (ct_Rd_readClause H (fun r_13 nm_10 rc_11 rd_12 H => ?_))
          refine EV_istore_n (lv' := [(0, vR 17), (2, vI x2), (3, vI r_13), (4, vI x4)]) [1, 2, 0, 3] d_Rd_readClauses_35 rfl (by decide) rfl ?_
          obtain ⟨hr, H⟩ := H
          refine EV_iinc (lv' := [(0, vR 17), (2, vI x2), (3, vI r_13), (4, vI (x4 + 1))]) 3 [1, 2, 3, 0] d_Rd_readClauses_36 rfl (by decide) hr rfl ?_
          refine EV_goto (tgt := 10) d_Rd_readClauses_39 (by decide) ?_
          exact ih x2 r_13 (x4 + 1) tk nm_10 rc_11 rd_12 H
theorem ct_Rd_readClauses {l : Launch} {tx tk nm o3 rc rd o6 o7 o8 o9 o10 : Ob} {x2 : Int} {K : Int → Ob → Ob → Ob → Ob → Prop} {K' : Option AV → List AC → Prop} (H : wp_Rd_readClauses x2 tx tk nm rc rd K) (hK : ∀ (r : Int) (tk' nm' rc' rd' : Ob), K r tk' nm' rc' rd' → K' (some (vI r)) (shC tx tk' nm' o3 rc' rd' o6 o7 o8 o9 o10)) : MT l ⟨"PrunedSearch$ClauseReader", "readClauses", "(LPrunedSearch$Text;I)I"⟩ prog_3_method_3_code 5 (some .int) 43 [vR 17, vR 1, vI x2] (shC tx tk nm o3 rc rd o6 o7 o8 o9 o10) K' := by
  unfold wp_Rd_readClauses at H
  refine MT_of (lv := [(0, vR 17), (1, vR 1), (2, vI x2)]) rfl rfl (Nat.le_of_ble_eq_true rfl) rfl ?_
  refine EV_aload_n 0 d_Rd_readClauses_0 rfl rfl ?_
  refine EV_aload_n 1 d_Rd_readClauses_1 rfl rfl ?_
  refine EV_callV (as := [vR 1]) (st := []) d_Rd_readClauses_2 k_475 k_477 kp_0 k_5 k_478 shC_17 rfl pd_97 ⟨by decide, by decide, Nat.le_of_ble_eq_true rfl⟩ rfl (ct_Rd_start H (fun tk_1 rc_2 rd_3 H => ?_))
  refine EV_iconst d_Rd_readClauses_5 ⟨by decide, by decide⟩ ?_
  refine EV_istore_n (lv' := [(0, vR 17), (1, vR 1), (2, vI x2), (3, vI 1)]) [1, 2, 3, 0] d_Rd_readClauses_6 rfl (by decide) rfl ?_
  refine EV_iconst d_Rd_readClauses_7 ⟨by decide, by decide⟩ ?_
  refine EV_istore (lv' := [(0, vR 17), (1, vR 1), (2, vI x2), (3, vI 1), (4, vI 0)]) [1, 2, 3, 4, 0] d_Rd_readClauses_8 (by decide) rfl ?_
  refine EV_lv (lv' := [(0, vR 17), (2, vI x2), (3, vI 1), (4, vI 0)]) [0, 2, 3, 4] rfl ?_
  obtain ⟨n, H⟩ := H
  exact ct_Rd_readClauses_10 hK n x2 1 0 tk_1 nm rc_2 rd_3 H
theorem ct_Text_clear {l : Launch} {tx o1 o2 o3 o4 o5 o6 o7 o8 o9 o10 : Ob} {K : Ob → Prop} {K' : Option AV → List AC → Prop} (H : wp_Text_clear tx K) (hK : ∀ (tx' : Ob), K tx' → K' none (shC tx' o1 o2 o3 o4 o5 o6 o7 o8 o9 o10)) : MT l ⟨"PrunedSearch$Text", "clear", "()V"⟩ prog_10_method_4_code 1 none 0 [vR 1] (shC tx o1 o2 o3 o4 o5 o6 o7 o8 o9 o10) K' := by
  unfold wp_Text_clear at H
  refine MT_of (lv := [(0, vR 1)]) rfl rfl (Nat.le_of_ble_eq_true rfl) rfl ?_
  refine EV_aload_n 0 d_Text_clear_0 rfl rfl ?_
  refine EV_iconst d_Text_clear_1 ⟨by decide, by decide⟩ ?_
  refine EV_put (j := 1) d_Text_clear_2 shC_1 rfl fI1 fO1 fN1 (by decide) k_35 rfl rfl (fun ad => nf_int ad _) (Nat.le_of_ble_eq_true rfl) shC_1_1 ?_
  exact EV_vret d_Text_clear_5 rfl (hK _ H)
theorem ct_Rd_code {l : Launch} {o0 o1 o2 o3 o4 o5 o6 o7 o8 o9 o10 : Ob} {K : Prop} {K' : Option AV → List AC → Prop} (H : wp_Rd_code K) (hK : K  → K' (some (vR 13)) (shC o0 o1 o2 o3 o4 o5 o6 o7 o8 o9 o10)) : MT l ⟨"PrunedSearch$ClauseReader", "code", "()LPrunedSearch$Code;"⟩ prog_3_method_2_code 1 (some (.object "PrunedSearch$Code")) 0 [vR 17] (shC o0 o1 o2 o3 o4 o5 o6 o7 o8 o9 o10) K' := by
  unfold wp_Rd_code at H
  refine MT_of (lv := [(0, vR 17)]) rfl rfl (Nat.le_of_ble_eq_true rfl) rfl ?_
  refine EV_aload_n 0 d_Rd_code_0 rfl rfl ?_
  refine EV_get (j := 2) d_Rd_code_1 shC_17 rfl fI5 (by decide) k_114 rfl ?_
  exact EV_aret d_Rd_code_4 rfl (hK  H)
theorem ct_Cod_endOf_r {l : Launch} {o0 o1 o2 o3 rc o5 o6 o7 o8 o9 o10 : Ob} {x1 : Int} {K : Int → Prop} {K' : Option AV → List AC → Prop} (H : wp_Cod_endOf_r x1 rc K) (hK : ∀ (r : Int), K r → K' (some (vI r)) (shC o0 o1 o2 o3 rc o5 o6 o7 o8 o9 o10)) : MT l ⟨"PrunedSearch$Code", "endOf", "(I)I"⟩ prog_4_method_10_code 2 (some .int) 0 [vR 13, vI x1] (shC o0 o1 o2 o3 rc o5 o6 o7 o8 o9 o10) K' := by
  unfold wp_Cod_endOf_r at H
  refine MT_of (lv := [(0, vR 13), (1, vI x1)]) rfl rfl (Nat.le_of_ble_eq_true rfl) rfl ?_
  refine EV_iload_n 1 d_Cod_endOf_r_0 rfl rfl ?_
  refine EV_if_lt (tgt := 13) d_Cod_endOf_r_1 (by decide) (fun hc => ?_) (fun hc => ?_)
  · have H := H.1 hc
    refine EV_iconst d_Cod_endOf_r_13 ⟨by decide, by decide⟩ ?_
    refine EV_goto (tgt := 23) d_Cod_endOf_r_14 (by decide) ?_
    exact EV_iret d_Cod_endOf_r_23 rfl (nw_int _) (hK _ H)
  · have H := H.2 hc
    refine EV_iload_n 1 d_Cod_endOf_r_4 rfl rfl ?_
    refine EV_aload_n 0 d_Cod_endOf_r_5 rfl rfl ?_
    refine EV_get (j := 2) d_Cod_endOf_r_6 shC_13 rfl fI4 (by decide) k_70 rfl ?_
    refine EV_alen (t := 0) (by decide) d_Cod_endOf_r_9 shC_16 (by decide) ?_
    refine EV_icmp_lt (tgt := 17) d_Cod_endOf_r_10 (by decide) (fun hc => ?_) (fun hc => ?_)
    · have H := H.1 hc
      refine EV_aload_n 0 d_Cod_endOf_r_17 rfl rfl ?_
      refine EV_get (j := 2) d_Cod_endOf_r_18 shC_13 rfl fI4 (by decide) k_70 rfl ?_
      refine EV_iload_n 1 d_Cod_endOf_r_21 rfl rfl ?_
      obtain ⟨hi, H⟩ := H
      refine EV_iald d_Cod_endOf_r_22 shC_16 hi ?_
      exact EV_iret d_Cod_endOf_r_23 rfl (nw_int _) (hK _ H)
    · have H := H.2 hc
      refine EV_iconst d_Cod_endOf_r_13 ⟨by decide, by decide⟩ ?_
      refine EV_goto (tgt := 23) d_Cod_endOf_r_14 (by decide) ?_
      exact EV_iret d_Cod_endOf_r_23 rfl (nw_int _) (hK _ H)
theorem ct_Cod_symbolAt_r {l : Launch} {o0 o1 o2 o3 rc o5 o6 o7 o8 o9 o10 : Ob} {x1 : Int} {K : Int → Prop} {K' : Option AV → List AC → Prop} (H : wp_Cod_symbolAt_r x1 rc K) (hK : ∀ (r : Int), K r → K' (some (vI r)) (shC o0 o1 o2 o3 rc o5 o6 o7 o8 o9 o10)) : MT l ⟨"PrunedSearch$Code", "symbolAt", "(I)I"⟩ prog_4_method_11_code 2 (some .int) 0 [vR 13, vI x1] (shC o0 o1 o2 o3 rc o5 o6 o7 o8 o9 o10) K' := by
  unfold wp_Cod_symbolAt_r at H
  refine MT_of (lv := [(0, vR 13), (1, vI x1)]) rfl rfl (Nat.le_of_ble_eq_true rfl) rfl ?_
  refine EV_iload_n 1 d_Cod_symbolAt_r_0 rfl rfl ?_
  refine EV_if_lt (tgt := 21) d_Cod_symbolAt_r_1 (by decide) (fun hc => ?_) (fun hc => ?_)
  · have H := H.1 hc
    refine EV_iconst d_Cod_symbolAt_r_21 ⟨by decide, by decide⟩ ?_
    exact EV_iret d_Cod_symbolAt_r_22 rfl (nw_int _) (hK _ H)
  · have H := H.2 hc
    refine EV_iload_n 1 d_Cod_symbolAt_r_4 rfl rfl ?_
    refine EV_aload_n 0 d_Cod_symbolAt_r_5 rfl rfl ?_
    refine EV_get (j := 3) d_Cod_symbolAt_r_6 shC_13 rfl fI4 (by decide) k_71 rfl ?_
    refine EV_icmp_ge (tgt := 21) d_Cod_symbolAt_r_9 (by decide) (fun hc => ?_) (fun hc => ?_)
    · have H := H.1 hc
      refine EV_iconst d_Cod_symbolAt_r_21 ⟨by decide, by decide⟩ ?_
      exact EV_iret d_Cod_symbolAt_r_22 rfl (nw_int _) (hK _ H)
    · have H := H.2 hc
      refine EV_aload_n 0 d_Cod_symbolAt_r_12 rfl rfl ?_
      refine EV_get (j := 0) d_Cod_symbolAt_r_13 shC_13 rfl fI4 (by decide) k_68 rfl ?_
      refine EV_iload_n 1 d_Cod_symbolAt_r_16 rfl rfl ?_
      obtain ⟨hi, H⟩ := H
      refine EV_iald d_Cod_symbolAt_r_17 shC_14 hi ?_
      refine EV_goto (tgt := 22) d_Cod_symbolAt_r_18 (by decide) ?_
      exact EV_iret d_Cod_symbolAt_r_22 rfl (nw_int _) (hK _ H)
theorem ct_Cod_add_p_32 {l : Launch} {o0 o1 o2 o4 o5 o6 o7 o8 o9 o10 : Ob} {K : Int → Ob → Prop} {K' : Option AV → List AC → Prop} {pr : Ob} (H : Cod_add_p_32 pr K) (hK : ∀ (r : Int) (pr' : Ob), K r pr' → K' (some (vI r)) (shC o0 o1 o2 pr' o4 o5 o6 o7 o8 o9 o10)) : EV l prog_4_method_3_code "PrunedSearch$Code" 2 (some .int) 0 32 [(0, vR 9)] [] (shC o0 o1 o2 pr o4 o5 o6 o7 o8 o9 o10) K' := by
  refine EV_aload_n 0 d_Cod_add_r_32 rfl rfl ?_
  refine EV_get (j := 3) d_Cod_add_r_33 shC_9 rfl fI4 (by decide) k_71 rfl ?_
  refine EV_iconst d_Cod_add_r_36 ⟨by decide, by decide⟩ ?_
  obtain ⟨hr, H⟩ := H
  refine EV_isub d_Cod_add_r_37 hr ?_
  exact EV_iret d_Cod_add_r_38 rfl (nw_int _) (hK _ _ H)
theorem ct_Cod_add_p {l : Launch} {o0 o1 o2 pr o4 o5 o6 o7 o8 o9 o10 : Ob} {x1 : Int} {K : Int → Ob → Prop} {K' : Option AV → List AC → Prop} (H : wp_Cod_add_p x1 pr K) (hK : ∀ (r : Int) (pr' : Ob), K r pr' → K' (some (vI r)) (shC o0 o1 o2 pr' o4 o5 o6 o7 o8 o9 o10)) : MT l ⟨"PrunedSearch$Code", "add", "(I)I"⟩ prog_4_method_3_code 2 (some .int) 0 [vR 9, vI x1] (shC o0 o1 o2 pr o4 o5 o6 o7 o8 o9 o10) K' := by
  unfold wp_Cod_add_p at H
  refine MT_of (lv := [(0, vR 9), (1, vI x1)]) rfl rfl (Nat.le_of_ble_eq_true rfl) rfl ?_
  refine EV_aload_n 0 d_Cod_add_r_0 rfl rfl ?_
  refine EV_get (j := 3) d_Cod_add_r_1 shC_9 rfl fI4 (by decide) k_71 rfl ?_
  refine EV_aload_n 0 d_Cod_add_r_4 rfl rfl ?_
  refine EV_get (j := 0) d_Cod_add_r_5 shC_9 rfl fI4 (by decide) k_68 rfl ?_
  refine EV_alen (t := 0) (by decide) d_Cod_add_r_8 shC_10 (by decide) ?_
  refine EV_icmp_ge (tgt := 32) d_Cod_add_r_9 (by decide) (fun hc => ?_) (fun hc => ?_)
  · have H := H.1 hc
    refine EV_lv (lv' := [(0, vR 9)]) [0] rfl ?_
    exact ct_Cod_add_p_32 H hK
  · have H := H.2 hc
    refine EV_aload_n 0 d_Cod_add_r_12 rfl rfl ?_
    refine EV_get (j := 0) d_Cod_add_r_13 shC_9 rfl fI4 (by decide) k_68 rfl ?_
    refine EV_aload_n 0 d_Cod_add_r_16 rfl rfl ?_
    refine EV_get (j := 3) d_Cod_add_r_17 shC_9 rfl fI4 (by decide) k_71 rfl ?_
    refine EV_iload_n 1 d_Cod_add_r_20 rfl rfl ?_
    obtain ⟨hi, H⟩ := H
    refine EV_iast d_Cod_add_r_21 shC_10 hi shC_10_s ?_
    refine EV_aload_n 0 d_Cod_add_r_22 rfl rfl ?_
    refine EV_dup d_Cod_add_r_23 rfl ?_
    refine EV_get (j := 3) d_Cod_add_r_24 shC_9 rfl fI4 (by decide) k_71 rfl ?_
    refine EV_iconst d_Cod_add_r_27 ⟨by decide, by decide⟩ ?_
    obtain ⟨hr, H⟩ := H
    refine EV_iadd d_Cod_add_r_28 hr ?_
    refine EV_put (j := 3) d_Cod_add_r_29 shC_9 rfl fI4 fO4 fN4 (by decide) k_71 rfl rfl (fun ad => nf_int ad _) (Nat.le_of_ble_eq_true rfl) shC_9_3 ?_
    refine EV_lv (lv' := [(0, vR 9)]) [0] rfl ?_
    exact ct_Cod_add_p_32 H hK
theorem ct_Cod_startOf_p {l : Launch} {o0 o1 o2 pr o4 o5 o6 o7 o8 o9 o10 : Ob} {x1 : Int} {K : Int → Prop} {K' : Option AV → List AC → Prop} (H : wp_Cod_startOf_p x1 pr K) (hK : ∀ (r : Int), K r → K' (some (vI r)) (shC o0 o1 o2 pr o4 o5 o6 o7 o8 o9 o10)) : MT l ⟨"PrunedSearch$Code", "startOf", "(I)I"⟩ prog_4_method_9_code 2 (some .int) 0 [vR 9, vI x1] (shC o0 o1 o2 pr o4 o5 o6 o7 o8 o9 o10) K' := by
  unfold wp_Cod_startOf_p at H
  refine MT_of (lv := [(0, vR 9), (1, vI x1)]) rfl rfl (Nat.le_of_ble_eq_true rfl) rfl ?_
  refine EV_iload_n 1 d_Cod_startOf_r_0 rfl rfl ?_
  refine EV_iconst d_Cod_startOf_r_1 ⟨by decide, by decide⟩ ?_
  refine EV_icmp_lt (tgt := 14) d_Cod_startOf_r_2 (by decide) (fun hc => ?_) (fun hc => ?_)
  · have H := H.1 hc
    refine EV_iconst d_Cod_startOf_r_14 ⟨by decide, by decide⟩ ?_
    refine EV_goto (tgt := 26) d_Cod_startOf_r_15 (by decide) ?_
    exact EV_iret d_Cod_startOf_r_26 rfl (nw_int _) (hK _ H)
  · have H := H.2 hc
    refine EV_iload_n 1 d_Cod_startOf_r_5 rfl rfl ?_
    refine EV_aload_n 0 d_Cod_startOf_r_6 rfl rfl ?_
    refine EV_get (j := 2) d_Cod_startOf_r_7 shC_9 rfl fI4 (by decide) k_70 rfl ?_
    refine EV_alen (t := 0) (by decide) d_Cod_startOf_r_10 shC_12 (by decide) ?_
    refine EV_icmp_le (tgt := 18) d_Cod_startOf_r_11 (by decide) (fun hc => ?_) (fun hc => ?_)
    · have H := H.1 hc
      refine EV_aload_n 0 d_Cod_startOf_r_18 rfl rfl ?_
      refine EV_get (j := 2) d_Cod_startOf_r_19 shC_9 rfl fI4 (by decide) k_70 rfl ?_
      refine EV_iload_n 1 d_Cod_startOf_r_22 rfl rfl ?_
      refine EV_iconst d_Cod_startOf_r_23 ⟨by decide, by decide⟩ ?_
      obtain ⟨hr, H⟩ := H
      refine EV_isub d_Cod_startOf_r_24 hr ?_
      obtain ⟨hi, H⟩ := H
      refine EV_iald d_Cod_startOf_r_25 shC_12 hi ?_
      exact EV_iret d_Cod_startOf_r_26 rfl (nw_int _) (hK _ H)
    · have H := H.2 hc
      refine EV_iconst d_Cod_startOf_r_14 ⟨by decide, by decide⟩ ?_
      refine EV_goto (tgt := 26) d_Cod_startOf_r_15 (by decide) ?_
      exact EV_iret d_Cod_startOf_r_26 rfl (nw_int _) (hK _ H)
theorem ct_Cod_measure_p_60 {l : Launch} {o0 o1 o2 o4 o5 o6 o7 o8 o9 o10 : Ob} {K : Ob → Prop} {K' : Option AV → List AC → Prop} {L7 : Int → Int → Ob → Prop} {x1 : Int} {x2 : Int} {x3 : Int} {pr : Ob} (hL7 : ∀ (x1 : Int) (x2 : Int) (pr : Ob), L7 x1 x2 pr → EV l prog_4_method_6_code "PrunedSearch$Code" 6 none 1 7 [(0, vR 9), (1, vI x1), (2, vI x2)] [] (shC o0 o1 o2 pr o4 o5 o6 o7 o8 o9 o10) K') (H : Cod_measure_p_60 L7 x1 x2 x3 pr K) (hK : ∀ (pr' : Ob), K pr' → K' none (shC o0 o1 o2 pr' o4 o5 o6 o7 o8 o9 o10)) : EV l prog_4_method_6_code "PrunedSearch$Code" 6 none 1 60 [(0, vR 9), (1, vI x1), (2, vI x2), (3, vI x3)] [] (shC o0 o1 o2 pr o4 o5 o6 o7 o8 o9 o10) K' := by
  refine EV_aload_n 0 d_Cod_measure_r_60 rfl rfl ?_
  refine EV_get (j := 1) d_Cod_measure_r_61 shC_9 rfl fI4 (by decide) k_69 rfl ?_
  refine EV_iload_n 2 d_Cod_measure_r_64 rfl rfl ?_
  refine EV_iload_n 3 d_Cod_measure_r_65 rfl rfl ?_
  refine EV_iload_n 2 d_Cod_measure_r_66 rfl rfl ?_
  obtain ⟨hr, H⟩ := H
  refine EV_isub d_Cod_measure_r_67 hr ?_
  obtain ⟨hi, H⟩ := H
  refine EV_iast d_Cod_measure_r_68 shC_11 hi shC_11_s ?_
  obtain ⟨hr, H⟩ := H
  refine EV_iinc (lv' := [(0, vR 9), (1, vI x1), (2, vI (x2 + (-1))), (3, vI x3)]) 2 [1, 2, 0, 3] d_Cod_measure_r_69 rfl (by decide) hr rfl ?_
  refine EV_goto (tgt := 7) d_Cod_measure_r_72 (by decide) ?_
  refine EV_lv (lv' := [(0, vR 9), (1, vI x1), (2, vI (x2 + (-1)))]) [0, 1, 2] rfl ?_
  exact hL7 x1 (x2 + (-1)) (sA pr 1 x2 (x3 - x2)) H
theorem ct_Cod_measure_p_30 {l : Launch} {o0 o1 o2 o4 o5 o6 o7 o8 o9 o10 : Ob} {K : Ob → Prop} {K' : Option AV → List AC → Prop} {L7 : Int → Int → Ob → Prop} (hL7 : ∀ (x1 : Int) (x2 : Int) (pr : Ob), L7 x1 x2 pr → EV l prog_4_method_6_code "PrunedSearch$Code" 6 none 1 7 [(0, vR 9), (1, vI x1), (2, vI x2)] [] (shC o0 o1 o2 pr o4 o5 o6 o7 o8 o9 o10) K') (hK : ∀ (pr' : Ob), K pr' → K' none (shC o0 o1 o2 pr' o4 o5 o6 o7 o8 o9 o10)) : ∀ (n : Nat) (x1 : Int) (x2 : Int) (x3 : Int) (x4 : Int) (x5 : Int) (pr : Ob), Cod_measure_p_30 L7 n x1 x2 x3 x4 x5 pr K → EV l prog_4_method_6_code "PrunedSearch$Code" 6 none 1 30 [(0, vR 9), (1, vI x1), (2, vI x2), (3, vI x3), (4, vI x4), (5, vI x5)] [] (shC o0 o1 o2 pr o4 o5 o6 o7 o8 o9 o10) K' := by
  intro n
  induction n with
  | zero =>
    intro x1 x2 x3 x4 x5 pr H
    exact H.elim
  | succ n ih =>
    intro x1 x2 x3 x4 x5 pr H
    refine EV_iload 5 d_Cod_measure_r_30 rfl ?_
    refine EV_iload 4 d_Cod_measure_r_32 rfl ?_
    refine EV_icmp_ge (tgt := 60) d_Cod_measure_r_34 (by decide) (fun hc => ?_) (fun hc => ?_)
    · have H := H.1 hc
      refine EV_lv (lv' := [(0, vR 9), (1, vI x1), (2, vI x2), (3, vI x3)]) [0, 1, 2, 3] rfl ?_
      exact ct_Cod_measure_p_60 hL7 H hK
    · have H := H.2 hc
      refine EV_iload_n 3 d_Cod_measure_r_37 rfl rfl ?_
      refine EV_aload_n 0 d_Cod_measure_r_38 rfl rfl ?_
      refine EV_get (j := 3) d_Cod_measure_r_39 shC_9 rfl fI4 (by decide) k_71 rfl ?_
      refine EV_icmp_ge (tgt := 60) d_Cod_measure_r_42 (by decide) (fun hc => ?_) (fun hc => ?_)
      · have H := H.1 hc
        refine EV_lv (lv' := [(0, vR 9), (1, vI x1), (2, vI x2), (3, vI x3)]) [0, 1, 2, 3] rfl ?_
        exact ct_Cod_measure_p_60 hL7 H hK
      · have H := H.2 hc
        refine EV_iload_n 3 d_Cod_measure_r_45 rfl rfl ?_
        refine EV_aload_n 0 d_Cod_measure_r_46 rfl rfl ?_
        refine EV_get (j := 1) d_Cod_measure_r_47 shC_9 rfl fI4 (by decide) k_69 rfl ?_
        refine EV_iload_n 3 d_Cod_measure_r_50 rfl rfl ?_
        obtain ⟨hi, H⟩ := H
        refine EV_iald d_Cod_measure_r_51 shC_11 hi ?_
        obtain ⟨hr, H⟩ := H
        refine EV_iadd d_Cod_measure_r_52 hr ?_
        refine EV_istore_n (lv' := [(0, vR 9), (1, vI x1), (2, vI x2), (3, vI (x3 + (pr.2.1 1 x3))), (4, vI x4), (5, vI x5)]) [1, 2, 3, 0, 4, 5] d_Cod_measure_r_53 rfl (by decide) rfl ?_
        obtain ⟨hr, H⟩ := H
        refine EV_iinc (lv' := [(0, vR 9), (1, vI x1), (2, vI x2), (3, vI (x3 + (pr.2.1 1 x3))), (4, vI x4), (5, vI (x5 + 1))]) 5 [1, 2, 3, 4, 5, 0] d_Cod_measure_r_54 rfl (by decide) hr rfl ?_
        refine EV_goto (tgt := 30) d_Cod_measure_r_57 (by decide) ?_
        exact ih x1 x2 (x3 + (pr.2.1 1 x3)) x4 (x5 + 1) pr H
theorem ct_Cod_measure_p_7 {l : Launch} {o0 o1 o2 o4 o5 o6 o7 o8 o9 o10 : Ob} {K : Ob → Prop} {K' : Option AV → List AC → Prop} (hK : ∀ (pr' : Ob), K pr' → K' none (shC o0 o1 o2 pr' o4 o5 o6 o7 o8 o9 o10)) : ∀ (n : Nat) (x1 : Int) (x2 : Int) (pr : Ob), Cod_measure_p_7 n x1 x2 pr K → EV l prog_4_method_6_code "PrunedSearch$Code" 6 none 1 7 [(0, vR 9), (1, vI x1), (2, vI x2)] [] (shC o0 o1 o2 pr o4 o5 o6 o7 o8 o9 o10) K' := by
  intro n
  induction n with
  | zero =>
    intro x1 x2 pr H
    exact H.elim
  | succ n ih =>
    intro x1 x2 pr H
    refine EV_iload_n 2 d_Cod_measure_r_7 rfl rfl ?_
    refine EV_iload_n 1 d_Cod_measure_r_8 rfl rfl ?_
    refine EV_icmp_lt (tgt := 75) d_Cod_measure_r_9 (by decide) (fun hc => ?_) (fun hc => ?_)
    · have H := H.1 hc
      exact EV_vret d_Cod_measure_r_75 rfl (hK _ H)
    · have H := H.2 hc
      refine EV_iload_n 2 d_Cod_measure_r_12 rfl rfl ?_
      refine EV_iconst d_Cod_measure_r_13 ⟨by decide, by decide⟩ ?_
      obtain ⟨hr, H⟩ := H
      refine EV_iadd d_Cod_measure_r_14 hr ?_
      refine EV_istore_n (lv' := [(0, vR 9), (1, vI x1), (2, vI x2), (3, vI (x2 + 1))]) [1, 2, 3, 0] d_Cod_measure_r_15 rfl (by decide) rfl ?_
      refine EV_aload_n 0 d_Cod_measure_r_16 rfl rfl ?_
      refine EV_get (j := 0) d_Cod_measure_r_17 shC_9 rfl fI4 (by decide) k_68 rfl ?_
      refine EV_iload_n 2 d_Cod_measure_r_20 rfl rfl ?_
      obtain ⟨hi, H⟩ := H
      refine EV_iald d_Cod_measure_r_21 shC_10 hi ?_
      refine EV_callN (as := [vI (pr.2.1 0 x2)]) (st := []) d_Cod_measure_r_22 k_592 k_593 k_1 k_594 pd_84 ⟨by decide, by decide, Nat.le_of_ble_eq_true rfl⟩ rfl (ct_P_argumentsOf H (fun r_1 H => ?_))
      refine EV_istore (lv' := [(0, vR 9), (1, vI x1), (2, vI x2), (3, vI (x2 + 1)), (4, vI r_1)]) [1, 2, 3, 4, 0] d_Cod_measure_r_25 (by decide) rfl ?_
      refine EV_iconst d_Cod_measure_r_27 ⟨by decide, by decide⟩ ?_
      refine EV_istore (lv' := [(0, vR 9), (1, vI x1), (2, vI x2), (3, vI (x2 + 1)), (4, vI r_1), (5, vI 0)]) [1, 2, 3, 4, 5, 0] d_Cod_measure_r_28 (by decide) rfl ?_
      obtain ⟨n, H⟩ := H
      exact ct_Cod_measure_p_30 (fun x1 x2 pr' H => ih x1 x2 pr' H) hK n x1 x2 (x2 + 1) r_1 0 pr H
theorem ct_Cod_measure_p {l : Launch} {o0 o1 o2 pr o4 o5 o6 o7 o8 o9 o10 : Ob} {x1 : Int} {K : Ob → Prop} {K' : Option AV → List AC → Prop} (H : wp_Cod_measure_p x1 pr K) (hK : ∀ (pr' : Ob), K pr' → K' none (shC o0 o1 o2 pr' o4 o5 o6 o7 o8 o9 o10)) : MT l ⟨"PrunedSearch$Code", "measure", "(I)V"⟩ prog_4_method_6_code 6 none 1 [vR 9, vI x1] (shC o0 o1 o2 pr o4 o5 o6 o7 o8 o9 o10) K' := by
  unfold wp_Cod_measure_p at H
  refine MT_of (lv := [(0, vR 9), (1, vI x1)]) rfl rfl (Nat.le_of_ble_eq_true rfl) rfl ?_
  refine EV_aload_n 0 d_Cod_measure_r_0 rfl rfl ?_
  refine EV_get (j := 3) d_Cod_measure_r_1 shC_9 rfl fI4 (by decide) k_71 rfl ?_
  refine EV_iconst d_Cod_measure_r_4 ⟨by decide, by decide⟩ ?_
  obtain ⟨hr, H⟩ := H
  refine EV_isub d_Cod_measure_r_5 hr ?_
  refine EV_istore_n (lv' := [(0, vR 9), (1, vI x1), (2, vI ((pr.1 0) - 1))]) [1, 2, 0] d_Cod_measure_r_6 rfl (by decide) rfl ?_
  obtain ⟨n, H⟩ := H
  exact ct_Cod_measure_p_7 hK n x1 ((pr.1 0) - 1) pr H
theorem ct_Cod_endPart_p_37 {l : Launch} {o0 o1 o2 o4 o5 o6 o7 o8 o9 o10 : Ob} {K : Ob → Prop} {K' : Option AV → List AC → Prop} {pr : Ob} (H : Cod_endPart_p_37 pr K) (hK : ∀ (pr' : Ob), K pr' → K' none (shC o0 o1 o2 pr' o4 o5 o6 o7 o8 o9 o10)) : EV l prog_4_method_5_code "PrunedSearch$Code" 1 none 2 37 [(0, vR 9)] [] (shC o0 o1 o2 pr o4 o5 o6 o7 o8 o9 o10) K' := by
  refine EV_aload_n 0 d_Cod_endPart_r_37 rfl rfl ?_
  refine EV_dup d_Cod_endPart_r_38 rfl ?_
  refine EV_get (j := 4) d_Cod_endPart_r_39 shC_9 rfl fI4 (by decide) k_72 rfl ?_
  refine EV_iconst d_Cod_endPart_r_42 ⟨by decide, by decide⟩ ?_
  obtain ⟨hr, H⟩ := H
  refine EV_iadd d_Cod_endPart_r_43 hr ?_
  refine EV_put (j := 4) d_Cod_endPart_r_44 shC_9 rfl fI4 fO4 fN4 (by decide) k_72 rfl rfl (fun ad => nf_int ad _) (Nat.le_of_ble_eq_true rfl) shC_9_4 ?_
  exact EV_vret d_Cod_endPart_r_47 rfl (hK _ H)
theorem ct_Cod_endPart_p {l : Launch} {o0 o1 o2 pr o4 o5 o6 o7 o8 o9 o10 : Ob} {K : Ob → Prop} {K' : Option AV → List AC → Prop} (H : wp_Cod_endPart_p pr K) (hK : ∀ (pr' : Ob), K pr' → K' none (shC o0 o1 o2 pr' o4 o5 o6 o7 o8 o9 o10)) : MT l ⟨"PrunedSearch$Code", "endPart", "()V"⟩ prog_4_method_5_code 1 none 2 [vR 9] (shC o0 o1 o2 pr o4 o5 o6 o7 o8 o9 o10) K' := by
  unfold wp_Cod_endPart_p at H
  refine MT_of (lv := [(0, vR 9)]) rfl rfl (Nat.le_of_ble_eq_true rfl) rfl ?_
  refine EV_aload_n 0 d_Cod_endPart_r_0 rfl rfl ?_
  refine EV_get (j := 4) d_Cod_endPart_r_1 shC_9 rfl fI4 (by decide) k_72 rfl ?_
  refine EV_aload_n 0 d_Cod_endPart_r_4 rfl rfl ?_
  refine EV_get (j := 2) d_Cod_endPart_r_5 shC_9 rfl fI4 (by decide) k_70 rfl ?_
  refine EV_alen (t := 0) (by decide) d_Cod_endPart_r_8 shC_12 (by decide) ?_
  refine EV_icmp_ge (tgt := 37) d_Cod_endPart_r_9 (by decide) (fun hc => ?_) (fun hc => ?_)
  · have H := H.1 hc
    exact ct_Cod_endPart_p_37 H hK
  · have H := H.2 hc
    refine EV_aload_n 0 d_Cod_endPart_r_12 rfl rfl ?_
    refine EV_get (j := 2) d_Cod_endPart_r_13 shC_9 rfl fI4 (by decide) k_70 rfl ?_
    refine EV_aload_n 0 d_Cod_endPart_r_16 rfl rfl ?_
    refine EV_get (j := 4) d_Cod_endPart_r_17 shC_9 rfl fI4 (by decide) k_72 rfl ?_
    refine EV_aload_n 0 d_Cod_endPart_r_20 rfl rfl ?_
    refine EV_get (j := 3) d_Cod_endPart_r_21 shC_9 rfl fI4 (by decide) k_71 rfl ?_
    obtain ⟨hi, H⟩ := H
    refine EV_iast d_Cod_endPart_r_24 shC_12 hi shC_12_s ?_
    refine EV_aload_n 0 d_Cod_endPart_r_25 rfl rfl ?_
    refine EV_aload_n 0 d_Cod_endPart_r_26 rfl rfl ?_
    refine EV_aload_n 0 d_Cod_endPart_r_27 rfl rfl ?_
    refine EV_get (j := 4) d_Cod_endPart_r_28 shC_9 rfl fI4 (by decide) k_72 rfl ?_
    refine EV_callV (as := [vI (pr.1 1)]) (st := [vR 9]) d_Cod_endPart_r_31 k_580 k_581 k_582 k_4 k_583 shC_9 rfl pd_83 ⟨by decide, by decide, Nat.le_of_ble_eq_true rfl⟩ rfl (ct_Cod_startOf_p H (fun r_1 H => ?_))
    refine EV_callV (as := [vI r_1]) (st := []) d_Cod_endPart_r_34 k_588 k_590 kp_15 k_4 k_591 shC_9 rfl pd_85 ⟨by decide, by decide, Nat.le_of_ble_eq_true rfl⟩ rfl (ct_Cod_measure_p H (fun pr_2 H => ?_))
    exact ct_Cod_endPart_p_37 H hK
theorem ct_Cod_addParts_r_41 {l : Launch} {o0 o1 o2 rc o5 o6 o7 o8 o9 o10 : Ob} {K : Ob → Prop} {K' : Option AV → List AC → Prop} {L2 : Int → Ob → Prop} {x2 : Int} {pr : Ob} (hL2 : ∀ (x2 : Int) (pr : Ob), L2 x2 pr → EV l prog_4_method_7_code "PrunedSearch$Code" 4 none 3 2 [(0, vR 9), (1, vR 13), (2, vI x2)] [] (shC o0 o1 o2 pr rc o5 o6 o7 o8 o9 o10) K') (H : Cod_addParts_r_41 L2 x2 pr rc K) (hK : ∀ (pr' : Ob), K pr' → K' none (shC o0 o1 o2 pr' rc o5 o6 o7 o8 o9 o10)) : EV l prog_4_method_7_code "PrunedSearch$Code" 4 none 3 41 [(0, vR 9), (1, vR 13), (2, vI x2)] [] (shC o0 o1 o2 pr rc o5 o6 o7 o8 o9 o10) K' := by
  refine EV_aload_n 0 d_Cod_addParts_r_41 rfl rfl ?_
  refine EV_callV (as := []) (st := []) d_Cod_addParts_r_42 k_637 k_585 k_586 k_4 k_587 shC_9 rfl pd_86 ⟨by decide, by decide, Nat.le_of_ble_eq_true rfl⟩ rfl (ct_Cod_endPart_p H (fun pr_4 H => ?_))
  obtain ⟨hr, H⟩ := H
  refine EV_iinc (lv' := [(0, vR 9), (1, vR 13), (2, vI (x2 + 1))]) 2 [1, 2, 0] d_Cod_addParts_r_45 rfl (by decide) hr rfl ?_
  refine EV_goto (tgt := 2) d_Cod_addParts_r_48 (by decide) ?_
  exact hL2 (x2 + 1) pr_4 H
theorem ct_Cod_addParts_r_16 {l : Launch} {o0 o1 o2 rc o5 o6 o7 o8 o9 o10 : Ob} {K : Ob → Prop} {K' : Option AV → List AC → Prop} {L2 : Int → Ob → Prop} (hL2 : ∀ (x2 : Int) (pr : Ob), L2 x2 pr → EV l prog_4_method_7_code "PrunedSearch$Code" 4 none 3 2 [(0, vR 9), (1, vR 13), (2, vI x2)] [] (shC o0 o1 o2 pr rc o5 o6 o7 o8 o9 o10) K') (hK : ∀ (pr' : Ob), K pr' → K' none (shC o0 o1 o2 pr' rc o5 o6 o7 o8 o9 o10)) : ∀ (n : Nat) (x2 : Int) (x3 : Int) (pr : Ob), Cod_addParts_r_16 L2 n x2 x3 pr rc K → EV l prog_4_method_7_code "PrunedSearch$Code" 4 none 3 16 [(0, vR 9), (1, vR 13), (2, vI x2), (3, vI x3)] [] (shC o0 o1 o2 pr rc o5 o6 o7 o8 o9 o10) K' := by
  intro n
  induction n with
  | zero =>
    intro x2 x3 pr H
    exact H.elim
  | succ n ih =>
    intro x2 x3 pr H
    refine EV_iload_n 3 d_Cod_addParts_r_16 rfl rfl ?_
    refine EV_aload_n 1 d_Cod_addParts_r_17 rfl rfl ?_
    refine EV_iload_n 2 d_Cod_addParts_r_18 rfl rfl ?_
    refine EV_callV (as := [vI x2]) (st := [vI x3]) d_Cod_addParts_r_19 k_628 k_629 k_630 k_4 k_631 shC_13 rfl pd_99 ⟨by decide, by decide, Nat.le_of_ble_eq_true rfl⟩ rfl (ct_Cod_endOf_r H (fun r_3 H => ?_))
    refine EV_icmp_ge (tgt := 41) d_Cod_addParts_r_22 (by decide) (fun hc => ?_) (fun hc => ?_)
    · have H := H.1 hc
      refine EV_lv (lv' := [(0, vR 9), (1, vR 13), (2, vI x2)]) [0, 1, 2] rfl ?_
      exact ct_Cod_addParts_r_41 hL2 H hK
    · have H := H.2 hc
      refine EV_aload_n 0 d_Cod_addParts_r_25 rfl rfl ?_
      refine EV_aload_n 1 d_Cod_addParts_r_26 rfl rfl ?_
      refine EV_iload_n 3 d_Cod_addParts_r_27 rfl rfl ?_
      refine EV_callV (as := [vI x3]) (st := [vR 9]) d_Cod_addParts_r_28 k_632 k_633 k_634 k_4 k_635 shC_13 rfl pd_98 ⟨by decide, by decide, Nat.le_of_ble_eq_true rfl⟩ rfl (ct_Cod_symbolAt_r H (fun r_5 H => ?_))
      refine EV_callV (as := [vI r_5]) (st := []) d_Cod_addParts_r_31 k_636 k_539 k_540 k_4 k_541 shC_9 rfl pd_76 ⟨by decide, by decide, Nat.le_of_ble_eq_true rfl⟩ rfl (ct_Cod_add_p H (fun r_7 pr_6 H => ?_))
      refine EV_pop d_Cod_addParts_r_34 rfl ?_
      obtain ⟨hr, H⟩ := H
      refine EV_iinc (lv' := [(0, vR 9), (1, vR 13), (2, vI x2), (3, vI (x3 + 1))]) 3 [1, 2, 3, 0] d_Cod_addParts_r_35 rfl (by decide) hr rfl ?_
      refine EV_goto (tgt := 16) d_Cod_addParts_r_38 (by decide) ?_
      exact ih x2 (x3 + 1) pr_6 H
theorem ct_Cod_addParts_r_2 {l : Launch} {o0 o1 o2 rc o5 o6 o7 o8 o9 o10 : Ob} {K : Ob → Prop} {K' : Option AV → List AC → Prop} (hK : ∀ (pr' : Ob), K pr' → K' none (shC o0 o1 o2 pr' rc o5 o6 o7 o8 o9 o10)) : ∀ (n : Nat) (x2 : Int) (pr : Ob), Cod_addParts_r_2 n x2 pr rc K → EV l prog_4_method_7_code "PrunedSearch$Code" 4 none 3 2 [(0, vR 9), (1, vR 13), (2, vI x2)] [] (shC o0 o1 o2 pr rc o5 o6 o7 o8 o9 o10) K' := by
  intro n
  induction n with
  | zero =>
    intro x2 pr H
    exact H.elim
  | succ n ih =>
    intro x2 pr H
    refine EV_iload_n 2 d_Cod_addParts_r_2 rfl rfl ?_
    refine EV_aload_n 1 d_Cod_addParts_r_3 rfl rfl ?_
    refine EV_callV (as := []) (st := [vI x2]) d_Cod_addParts_r_4 k_627 k_468 k_469 k_4 k_470 shC_13 rfl pd_88 ⟨by decide, by decide, Nat.le_of_ble_eq_true rfl⟩ rfl (ct_Cod_partCount_r H (fun r_1 H => ?_))
    refine EV_icmp_ge (tgt := 51) d_Cod_addParts_r_7 (by decide) (fun hc => ?_) (fun hc => ?_)
    · have H := H.1 hc
      exact EV_vret d_Cod_addParts_r_51 rfl (hK _ H)
    · have H := H.2 hc
      refine EV_aload_n 1 d_Cod_addParts_r_10 rfl rfl ?_
      refine EV_iload_n 2 d_Cod_addParts_r_11 rfl rfl ?_
      refine EV_callV (as := [vI x2]) (st := []) d_Cod_addParts_r_12 k_580 k_581 k_582 k_4 k_583 shC_13 rfl pd_83 ⟨by decide, by decide, Nat.le_of_ble_eq_true rfl⟩ rfl (ct_Cod_startOf_r H (fun r_2 H => ?_))
      refine EV_istore_n (lv' := [(0, vR 9), (1, vR 13), (2, vI x2), (3, vI r_2)]) [1, 2, 3, 0] d_Cod_addParts_r_15 rfl (by decide) rfl ?_
      obtain ⟨n, H⟩ := H
      exact ct_Cod_addParts_r_16 (fun x2 pr' H => ih x2 pr' H) hK n x2 r_2 pr H
theorem ct_Cod_addParts_r {l : Launch} {o0 o1 o2 pr rc o5 o6 o7 o8 o9 o10 : Ob} {K : Ob → Prop} {K' : Option AV → List AC → Prop} (H : wp_Cod_addParts_r pr rc K) (hK : ∀ (pr' : Ob), K pr' → K' none (shC o0 o1 o2 pr' rc o5 o6 o7 o8 o9 o10)) : MT l ⟨"PrunedSearch$Code", "addParts", "(LPrunedSearch$Code;)V"⟩ prog_4_method_7_code 4 none 3 [vR 9, vR 13] (shC o0 o1 o2 pr rc o5 o6 o7 o8 o9 o10) K' := by
  unfold wp_Cod_addParts_r at H
  refine MT_of (lv := [(0, vR 9), (1, vR 13)]) rfl rfl (Nat.le_of_ble_eq_true rfl) rfl ?_
  refine EV_iconst d_Cod_addParts_r_0 ⟨by decide, by decide⟩ ?_
  refine EV_istore_n (lv' := [(0, vR 9), (1, vR 13), (2, vI 0)]) [1, 2, 0] d_Cod_addParts_r_1 rfl (by decide) rfl ?_
  obtain ⟨n, H⟩ := H
  exact ct_Cod_addParts_r_2 hK n 0 pr H
theorem ct_P_consult {l : Launch} {tx tk nm pr rc rd te go ch se wr : Ob} {K : Int → Ob → Ob → Ob → Ob → Ob → Ob → Ob → Ob → Ob → Ob → Ob → Prop} {K' : Option AV → List AC → Prop} (H : wp_P_consult tx tk nm pr rc rd te go ch se wr K) (hK : ∀ (r : Int) (tx' tk' nm' pr' rc' rd' te' go' ch' se' wr' : Ob), K r tx' tk' nm' pr' rc' rd' te' go' ch' se' wr' → K' (some (vI r)) (shC tx' tk' nm' pr' rc' rd' te' go' ch' se' wr')) : MT l ⟨"PrunedSearch", "consult", "()I"⟩ prog_1_method_3_code 2 (some .int) 44 [vR 0] (shC tx tk nm pr rc rd te go ch se wr) K' := by
  unfold wp_P_consult at H
  refine MT_of (lv := [(0, vR 0)]) rfl rfl (Nat.le_of_ble_eq_true rfl) rfl ?_
  refine EV_aload_n 0 d_P_consult_0 rfl rfl ?_
  refine EV_get (j := 4) d_P_consult_1 shC_0 rfl fI0 (by decide) k_323 rfl ?_
  refine EV_callV (as := []) (st := []) d_P_consult_4 k_445 k_446 k_447 k_7 k_448 shC_38 rfl pd_104 ⟨by decide, by decide, Nat.le_of_ble_eq_true rfl⟩ rfl (ct_Sea_end H (fun te_1 go_2 ch_3 se_4 wr_5 H => ?_))
  refine EV_aload_n 0 d_P_consult_7 rfl rfl ?_
  refine EV_get (j := 3) d_P_consult_8 shC_0 rfl fI0 (by decide) k_322 rfl ?_
  refine EV_aload_n 0 d_P_consult_11 rfl rfl ?_
  refine EV_get (j := 0) d_P_consult_12 shC_0 rfl fI0 (by decide) k_319 rfl ?_
  refine EV_aload_n 0 d_P_consult_15 rfl rfl ?_
  refine EV_get (j := 2) d_P_consult_16 shC_0 rfl fI0 (by decide) k_321 rfl ?_
  refine EV_callV (as := []) (st := [vR 1, vR 17]) d_P_consult_19 k_467 k_468 k_469 k_4 k_470 shC_9 rfl pd_88 ⟨by decide, by decide, Nat.le_of_ble_eq_true rfl⟩ rfl (ct_Cod_partCount_p H (fun r_6 H => ?_))
  refine EV_callV (as := [vR 1, vI r_6]) (st := []) d_P_consult_22 k_471 k_472 k_473 k_5 k_474 shC_17 rfl pd_103 ⟨by decide, by decide, Nat.le_of_ble_eq_true rfl⟩ rfl (ct_Rd_readClauses H (fun r_11 tk_7 nm_8 rc_9 rd_10 H => ?_))
  refine EV_istore_n (lv' := [(0, vR 0), (1, vI r_11)]) [1, 0] d_P_consult_25 rfl (by decide) rfl ?_
  refine EV_aload_n 0 d_P_consult_26 rfl rfl ?_
  refine EV_get (j := 0) d_P_consult_27 shC_0 rfl fI0 (by decide) k_319 rfl ?_
  refine EV_callV (as := []) (st := []) d_P_consult_30 k_615 k_616 k_617 k_2 k_618 shC_1 rfl pd_102 ⟨by decide, by decide, Nat.le_of_ble_eq_true rfl⟩ rfl (ct_Text_clear H (fun tx_12 H => ?_))
  refine EV_iload_n 1 d_P_consult_33 rfl rfl ?_
  refine EV_if_le (tgt := 51) d_P_consult_34 (by decide) (fun hc => ?_) (fun hc => ?_)
  · have H := H.1 hc
    refine EV_iload_n 1 d_P_consult_51 rfl rfl ?_
    exact EV_iret d_P_consult_52 rfl (nw_int _) (hK _ _ _ _ _ _ _ _ _ _ _ _ H)
  · have H := H.2 hc
    refine EV_aload_n 0 d_P_consult_37 rfl rfl ?_
    refine EV_get (j := 2) d_P_consult_38 shC_0 rfl fI0 (by decide) k_321 rfl ?_
    refine EV_aload_n 0 d_P_consult_41 rfl rfl ?_
    refine EV_get (j := 3) d_P_consult_42 shC_0 rfl fI0 (by decide) k_322 rfl ?_
    refine EV_callV (as := []) (st := [vR 9]) d_P_consult_45 k_619 k_620 k_621 k_5 k_622 shC_17 rfl pd_101 ⟨by decide, by decide, Nat.le_of_ble_eq_true rfl⟩ rfl (ct_Rd_code H (fun H => ?_))
    refine EV_callV (as := [vR 13]) (st := []) d_P_consult_48 k_623 k_624 k_625 k_4 k_626 shC_9 rfl pd_100 ⟨by decide, by decide, Nat.le_of_ble_eq_true rfl⟩ rfl (ct_Cod_addParts_r H (fun pr_13 H => ?_))
    refine EV_iload_n 1 d_P_consult_51 rfl rfl ?_
    exact EV_iret d_P_consult_52 rfl (nw_int _) (hK _ _ _ _ _ _ _ _ _ _ _ _ H)
theorem ct_Rd_readQuestion_33 {l : Launch} {tx o3 o6 o7 o8 o9 o10 : Ob} {K : Int → Ob → Ob → Ob → Ob → Prop} {K' : Option AV → List AC → Prop} {s0 : Int} {tk nm rc rd : Ob} (H : Rd_readQuestion_33 s0 tx tk nm rc rd K) (hK : ∀ (r : Int) (tk' nm' rc' rd' : Ob), K r tk' nm' rc' rd' → K' (some (vI r)) (shC tx tk' nm' o3 rc' rd' o6 o7 o8 o9 o10)) : EV l prog_3_method_4_code "PrunedSearch$ClauseReader" 3 (some .int) 42 33 [(0, vR 17)] [vI s0] (shC tx tk nm o3 rc rd o6 o7 o8 o9 o10) K' := by
  refine EV_istore_n (lv' := [(0, vR 17), (2, vI s0)]) [1, 0] d_Rd_readQuestion_33 rfl (by decide) rfl ?_
  refine EV_aload_n 0 d_Rd_readQuestion_34 rfl rfl ?_
  refine EV_iload_n 1 d_Rd_readQuestion_35 rfl rfl ?_
  refine EV_aload_n 0 d_Rd_readQuestion_36 rfl rfl ?_
  refine EV_get (j := 4) d_Rd_readQuestion_37 shC_17 rfl fI5 (by decide) k_116 rfl ?_
  refine EV_callV (as := [vI s0, vI (rd.1 0)]) (st := []) d_Rd_readQuestion_40 k_595 k_597 kp_16 k_5 k_598 shC_17 rfl pd_95 ⟨by decide, by decide, Nat.le_of_ble_eq_true rfl⟩ rfl (ct_Rd_outcome H (fun r_10 nm_8 rd_9 H => ?_))
  exact EV_iret d_Rd_readQuestion_43 rfl (nw_int _) (hK _ _ _ _ _ H)
theorem ct_Rd_readQuestion_32 {l : Launch} {tx o3 o6 o7 o8 o9 o10 : Ob} {K : Int → Ob → Ob → Ob → Ob → Prop} {K' : Option AV → List AC → Prop} {tk nm rc rd : Ob} (H : Rd_readQuestion_32 tx tk nm rc rd K) (hK : ∀ (r : Int) (tk' nm' rc' rd' : Ob), K r tk' nm' rc' rd' → K' (some (vI r)) (shC tx tk' nm' o3 rc' rd' o6 o7 o8 o9 o10)) : EV l prog_3_method_4_code "PrunedSearch$ClauseReader" 3 (some .int) 42 32 [(0, vR 17)] [] (shC tx tk nm o3 rc rd o6 o7 o8 o9 o10) K' := by
  refine EV_iconst d_Rd_readQuestion_32 ⟨by decide, by decide⟩ ?_
  exact ct_Rd_readQuestion_33 H hK
theorem ct_Rd_readQuestion {l : Launch} {tx tk nm o3 rc rd o6 o7 o8 o9 o10 : Ob} {K : Int → Ob → Ob → Ob → Ob → Prop} {K' : Option AV → List AC → Prop} (H : wp_Rd_readQuestion tx tk nm rc rd K) (hK : ∀ (r : Int) (tk' nm' rc' rd' : Ob), K r tk' nm' rc' rd' → K' (some (vI r)) (shC tx tk' nm' o3 rc' rd' o6 o7 o8 o9 o10)) : MT l ⟨"PrunedSearch$ClauseReader", "readQuestion", "(LPrunedSearch$Text;)I"⟩ prog_3_method_4_code 3 (some .int) 42 [vR 17, vR 1] (shC tx tk nm o3 rc rd o6 o7 o8 o9 o10) K' := by
  unfold wp_Rd_readQuestion at H
  refine MT_of (lv := [(0, vR 17), (1, vR 1)]) rfl rfl (Nat.le_of_ble_eq_true rfl) rfl ?_
  refine EV_aload_n 0 d_Rd_readQuestion_0 rfl rfl ?_
  refine EV_aload_n 1 d_Rd_readQuestion_1 rfl rfl ?_
  refine EV_callV (as := [vR 1]) (st := []) d_Rd_readQuestion_2 k_475 k_477 kp_0 k_5 k_478 shC_17 rfl pd_97 ⟨by decide, by decide, Nat.le_of_ble_eq_true rfl⟩ rfl (ct_Rd_start H (fun tk_1 rc_2 rd_3 H => ?_))
  refine EV_aload_n 0 d_Rd_readQuestion_5 rfl rfl ?_
  refine EV_callV (as := []) (st := []) d_Rd_readQuestion_6 k_567 k_569 kp_13 k_5 k_570 shC_17 rfl pd_90 ⟨by decide, by decide, Nat.le_of_ble_eq_true rfl⟩ rfl (ct_Rd_readGoals H (fun r_7 nm_4 rc_5 rd_6 H => ?_))
  refine EV_if_eq (tgt := 32) d_Rd_readQuestion_9 (by decide) (fun hc => ?_) (fun hc => ?_)
  · have H := H.1 hc
    refine EV_lv (lv' := [(0, vR 17)]) [0] rfl ?_
    exact ct_Rd_readQuestion_32 H hK
  · have H := H.2 hc
    refine EV_aload_n 0 d_Rd_readQuestion_12 rfl rfl ?_
    refine EV_callV (as := []) (st := []) d_Rd_readQuestion_13 k_571 k_573 kp_14 k_5 k_574 shC_17 rfl pd_89 ⟨by decide, by decide, Nat.le_of_ble_eq_true rfl⟩ rfl (ct_Rd_endPart H (fun r_13 rc_11 rd_12 H => ?_))
    refine EV_if_eq (tgt := 32) d_Rd_readQuestion_16 (by decide) (fun hc => ?_) (fun hc => ?_)
    · have H := H.1 hc
      refine EV_lv (lv' := [(0, vR 17)]) [0] rfl ?_
      exact ct_Rd_readQuestion_32 H hK
    · have H := H.2 hc
      refine EV_aload_n 0 d_Rd_readQuestion_19 rfl rfl ?_
      refine EV_bipush d_Rd_readQuestion_20 (by decide +kernel) ⟨by decide, by decide⟩ ?_
      refine EV_callV (as := [vI 32]) (st := []) d_Rd_readQuestion_22 k_513 k_515 kp_5 k_5 k_516 shC_17 rfl pd_77 ⟨by decide, by decide, Nat.le_of_ble_eq_true rfl⟩ rfl (ct_Rd_isAt H (fun r_14 H => ?_))
      refine EV_if_eq (tgt := 32) d_Rd_readQuestion_25 (by decide) (fun hc => ?_) (fun hc => ?_)
      · have H := H.1 hc
        refine EV_lv (lv' := [(0, vR 17)]) [0] rfl ?_
        exact ct_Rd_readQuestion_32 H hK
      · have H := H.2 hc
        refine EV_iconst d_Rd_readQuestion_28 ⟨by decide, by decide⟩ ?_
        refine EV_goto (tgt := 33) d_Rd_readQuestion_29 (by decide) ?_
        refine EV_lv (lv' := [(0, vR 17)]) [0] rfl ?_
        exact ct_Rd_readQuestion_33 H hK
theorem ct_Arr_fill_26_5 {l : Launch} {o0 o1 o2 o3 o4 o5 o7 o8 o9 o10 : Ob} {K : Ob → Prop} {K' : Option AV → List AC → Prop} (hK : ∀ (te' : Ob), K te' → K' none (shC o0 o1 o2 o3 o4 o5 te' o7 o8 o9 o10)) : ∀ (n : Nat) (x1 : Int) (x2 : Int) (x3 : Int) (te : Ob), Arr_fill_26_5 n x1 x2 x3 te K → EV l prog_19_method_103_code "java/util/Arrays" 4 none 0 5 [(0, vR 26), (1, vI x1), (2, vI x2), (3, vI x3)] [] (shC o0 o1 o2 o3 o4 o5 te o7 o8 o9 o10) K' := by
  intro n
  induction n with
  | zero =>
    intro x1 x2 x3 te H
    exact H.elim
  | succ n ih =>
    intro x1 x2 x3 te H
    refine EV_iload_n 2 d_Arr_fill_26_5 rfl rfl ?_
    refine EV_iload_n 3 d_Arr_fill_26_6 rfl rfl ?_
    refine EV_icmp_ge (tgt := 20) d_Arr_fill_26_7 (by decide) (fun hc => ?_) (fun hc => ?_)
    · have H := H.1 hc
      exact EV_vret d_Arr_fill_26_20 rfl (hK _ H)
    · have H := H.2 hc
      refine EV_aload_n 0 d_Arr_fill_26_10 rfl rfl ?_
      refine EV_iload_n 2 d_Arr_fill_26_11 rfl rfl ?_
      refine EV_iload_n 1 d_Arr_fill_26_12 rfl rfl ?_
      obtain ⟨hi, H⟩ := H
      refine EV_iast d_Arr_fill_26_13 shC_26 hi shC_26_s ?_
      obtain ⟨hr, H⟩ := H
      refine EV_iinc (lv' := [(0, vR 26), (1, vI x1), (2, vI (x2 + 1)), (3, vI x3)]) 2 [1, 2, 0, 3] d_Arr_fill_26_14 rfl (by decide) hr rfl ?_
      refine EV_goto (tgt := 5) d_Arr_fill_26_17 (by decide) ?_
      exact ih x1 (x2 + 1) x3 (sA te 6 x2 x1) H
theorem ct_Arr_fill_26 {l : Launch} {o0 o1 o2 o3 o4 o5 te o7 o8 o9 o10 : Ob} {x1 : Int} {K : Ob → Prop} {K' : Option AV → List AC → Prop} (H : wp_Arr_fill_26 x1 te K) (hK : ∀ (te' : Ob), K te' → K' none (shC o0 o1 o2 o3 o4 o5 te' o7 o8 o9 o10)) : MT l ⟨"java/util/Arrays", "fill", "([II)V"⟩ prog_19_method_103_code 4 none 0 [vR 26, vI x1] (shC o0 o1 o2 o3 o4 o5 te o7 o8 o9 o10) K' := by
  unfold wp_Arr_fill_26 at H
  refine MT_of (lv := [(0, vR 26), (1, vI x1)]) rfl rfl (Nat.le_of_ble_eq_true rfl) rfl ?_
  refine EV_iconst d_Arr_fill_26_0 ⟨by decide, by decide⟩ ?_
  refine EV_istore_n (lv' := [(0, vR 26), (1, vI x1), (2, vI 0)]) [1, 2, 0] d_Arr_fill_26_1 rfl (by decide) rfl ?_
  refine EV_aload_n 0 d_Arr_fill_26_2 rfl rfl ?_
  refine EV_alen (t := 0) (by decide) d_Arr_fill_26_3 shC_26 (by decide) ?_
  refine EV_istore_n (lv' := [(0, vR 26), (1, vI x1), (2, vI 0), (3, vI 8)]) [1, 2, 3, 0] d_Arr_fill_26_4 rfl (by decide) rfl ?_
  obtain ⟨n, H⟩ := H
  exact ct_Arr_fill_26_5 hK n x1 0 8 te H
theorem ct_Cod_sizeAt_r {l : Launch} {o0 o1 o2 o3 rc o5 o6 o7 o8 o9 o10 : Ob} {x1 : Int} {K : Int → Prop} {K' : Option AV → List AC → Prop} (H : wp_Cod_sizeAt_r x1 rc K) (hK : ∀ (r : Int), K r → K' (some (vI r)) (shC o0 o1 o2 o3 rc o5 o6 o7 o8 o9 o10)) : MT l ⟨"PrunedSearch$Code", "sizeAt", "(I)I"⟩ prog_4_method_12_code 2 (some .int) 0 [vR 13, vI x1] (shC o0 o1 o2 o3 rc o5 o6 o7 o8 o9 o10) K' := by
  unfold wp_Cod_sizeAt_r at H
  refine MT_of (lv := [(0, vR 13), (1, vI x1)]) rfl rfl (Nat.le_of_ble_eq_true rfl) rfl ?_
  refine EV_iload_n 1 d_Cod_sizeAt_r_0 rfl rfl ?_
  refine EV_if_lt (tgt := 21) d_Cod_sizeAt_r_1 (by decide) (fun hc => ?_) (fun hc => ?_)
  · have H := H.1 hc
    refine EV_iconst d_Cod_sizeAt_r_21 ⟨by decide, by decide⟩ ?_
    exact EV_iret d_Cod_sizeAt_r_22 rfl (nw_int _) (hK _ H)
  · have H := H.2 hc
    refine EV_iload_n 1 d_Cod_sizeAt_r_4 rfl rfl ?_
    refine EV_aload_n 0 d_Cod_sizeAt_r_5 rfl rfl ?_
    refine EV_get (j := 3) d_Cod_sizeAt_r_6 shC_13 rfl fI4 (by decide) k_71 rfl ?_
    refine EV_icmp_ge (tgt := 21) d_Cod_sizeAt_r_9 (by decide) (fun hc => ?_) (fun hc => ?_)
    · have H := H.1 hc
      refine EV_iconst d_Cod_sizeAt_r_21 ⟨by decide, by decide⟩ ?_
      exact EV_iret d_Cod_sizeAt_r_22 rfl (nw_int _) (hK _ H)
    · have H := H.2 hc
      refine EV_aload_n 0 d_Cod_sizeAt_r_12 rfl rfl ?_
      refine EV_get (j := 1) d_Cod_sizeAt_r_13 shC_13 rfl fI4 (by decide) k_69 rfl ?_
      refine EV_iload_n 1 d_Cod_sizeAt_r_16 rfl rfl ?_
      obtain ⟨hi, H⟩ := H
      refine EV_iald d_Cod_sizeAt_r_17 shC_15 hi ?_
      refine EV_goto (tgt := 22) d_Cod_sizeAt_r_18 (by decide) ?_
      exact EV_iret d_Cod_sizeAt_r_22 rfl (nw_int _) (hK _ H)
theorem ct_Ter_sameVariable {l : Launch} {o0 o1 o2 o3 o4 o5 te o7 o8 o9 o10 : Ob} {x1 : Int} {K : Int → Ob → Prop} {K' : Option AV → List AC → Prop} (H : wp_Ter_sameVariable x1 te K) (hK : ∀ (r : Int) (te' : Ob), K r te' → K' (some (vI r)) (shC o0 o1 o2 o3 o4 o5 te' o7 o8 o9 o10)) : MT l ⟨"PrunedSearch$Terms", "sameVariable", "(I)I"⟩ prog_9_method_6_code 3 (some .int) 0 [vR 19, vI x1] (shC o0 o1 o2 o3 o4 o5 te o7 o8 o9 o10) K' := by
  unfold wp_Ter_sameVariable at H
  refine MT_of (lv := [(0, vR 19), (1, vI x1)]) rfl rfl (Nat.le_of_ble_eq_true rfl) rfl ?_
  refine EV_iload_n 1 d_Ter_sameVariable_0 rfl rfl ?_
  refine EV_bipush d_Ter_sameVariable_1 (by decide +kernel) ⟨by decide, by decide⟩ ?_
  refine EV_icmp_lt (tgt := 8) d_Ter_sameVariable_3 (by decide) (fun hc => ?_) (fun hc => ?_)
  · have H := H.1 hc
    refine EV_aload_n 0 d_Ter_sameVariable_8 rfl rfl ?_
    refine EV_get (j := 6) d_Ter_sameVariable_9 shC_19 rfl fI6 (by decide) k_161 rfl ?_
    refine EV_iload_n 1 d_Ter_sameVariable_12 rfl rfl ?_
    obtain ⟨hi, H⟩ := H
    refine EV_iald d_Ter_sameVariable_13 shC_26 hi ?_
    refine EV_istore_n (lv' := [(0, vR 19), (1, vI x1), (2, vI (te.2.1 6 x1))]) [1, 2, 0] d_Ter_sameVariable_14 rfl (by decide) rfl ?_
    refine EV_iload_n 2 d_Ter_sameVariable_15 rfl rfl ?_
    refine EV_iconst d_Ter_sameVariable_16 ⟨by decide, by decide⟩ ?_
    refine EV_icmp_ne (tgt := 30) d_Ter_sameVariable_17 (by decide) (fun hc => ?_) (fun hc => ?_)
    · have H := H.1 hc
      refine EV_iload_n 2 d_Ter_sameVariable_30 rfl rfl ?_
      exact EV_iret d_Ter_sameVariable_31 rfl (nw_int _) (hK _ _ H)
    · have H := H.2 hc
      refine EV_aload_n 0 d_Ter_sameVariable_20 rfl rfl ?_
      refine EV_get (j := 6) d_Ter_sameVariable_21 shC_19 rfl fI6 (by decide) k_161 rfl ?_
      refine EV_iload_n 1 d_Ter_sameVariable_24 rfl rfl ?_
      refine EV_aload_n 0 d_Ter_sameVariable_25 rfl rfl ?_
      refine EV_get (j := 7) d_Ter_sameVariable_26 shC_19 rfl fI6 (by decide) k_162 rfl ?_
      obtain ⟨hi, H⟩ := H
      refine EV_iast d_Ter_sameVariable_29 shC_26 hi shC_26_s ?_
      refine EV_iload_n 2 d_Ter_sameVariable_30 rfl rfl ?_
      exact EV_iret d_Ter_sameVariable_31 rfl (nw_int _) (hK _ _ H)
  · have H := H.2 hc
    refine EV_iconst d_Ter_sameVariable_6 ⟨by decide, by decide⟩ ?_
    exact EV_iret d_Ter_sameVariable_7 rfl (nw_int _) (hK _ _ H)
theorem ct_Ter_copy_r_115 {l : Launch} {o0 o1 o2 o3 rc o5 o7 o8 o9 o10 : Ob} {K : Int → Ob → Prop} {K' : Option AV → List AC → Prop} {L27 : Int → Int → Int → Ob → Prop} {x3 : Int} {x4 : Int} {x5 : Int} {s0 : Int} {s1 : Int} {te : Ob} (hL27 : ∀ (x3 : Int) (x4 : Int) (x5 : Int) (te : Ob), L27 x3 x4 x5 te → EV l prog_9_method_5_code "PrunedSearch$Terms" 7 (some .int) 1 27 [(0, vR 19), (1, vR 13), (3, vI x3), (4, vI x4), (5, vI x5)] [] (shC o0 o1 o2 o3 rc o5 te o7 o8 o9 o10) K') (H : Ter_copy_r_115 L27 x3 x4 x5 s0 s1 rc te K) (hK : ∀ (r : Int) (te' : Ob), K r te' → K' (some (vI r)) (shC o0 o1 o2 o3 rc o5 te' o7 o8 o9 o10)) : EV l prog_9_method_5_code "PrunedSearch$Terms" 7 (some .int) 1 115 [(0, vR 19), (1, vR 13), (3, vI x3), (4, vI x4), (5, vI x5)] [vI s0, vI s1, vR 22] (shC o0 o1 o2 o3 rc o5 te o7 o8 o9 o10) K' := by
  obtain ⟨hi, H⟩ := H
  refine EV_iast d_Ter_copy_r_115 shC_22 hi shC_22_s ?_
  refine EV_aload_n 0 d_Ter_copy_r_116 rfl rfl ?_
  refine EV_dup d_Ter_copy_r_117 rfl ?_
  refine EV_get (j := 7) d_Ter_copy_r_118 shC_19 rfl fI6 (by decide) k_162 rfl ?_
  refine EV_iconst d_Ter_copy_r_121 ⟨by decide, by decide⟩ ?_
  obtain ⟨hr, H⟩ := H
  refine EV_iadd d_Ter_copy_r_122 hr ?_
  refine EV_put (j := 7) d_Ter_copy_r_123 shC_19 rfl fI6 fO6 fN6 (by decide) k_162 rfl rfl (fun ad => nf_int ad _) (Nat.le_of_ble_eq_true rfl) shC_19_7 ?_
  obtain ⟨hr, H⟩ := H
  refine EV_iinc (lv' := [(0, vR 19), (1, vR 13), (3, vI x3), (4, vI x4), (5, vI (x5 + 1))]) 4 [1, 2, 3, 4, 0] d_Ter_copy_r_126 rfl (by decide) hr rfl ?_
  refine EV_goto (tgt := 27) d_Ter_copy_r_129 (by decide) ?_
  exact hL27 x3 x4 (x5 + 1) (sI (sA te 2 s1 s0) 0 ((te.1 0) + 1)) H
theorem ct_Ter_copy_r_71 {l : Launch} {o0 o1 o2 o3 rc o5 o7 o8 o9 o10 : Ob} {K : Int → Ob → Prop} {K' : Option AV → List AC → Prop} {L27 : Int → Int → Int → Ob → Prop} {x3 : Int} {x4 : Int} {x5 : Int} {x6 : Int} {s0 : Int} {s1 : Int} {te : Ob} (hL27 : ∀ (x3 : Int) (x4 : Int) (x5 : Int) (te : Ob), L27 x3 x4 x5 te → EV l prog_9_method_5_code "PrunedSearch$Terms" 7 (some .int) 1 27 [(0, vR 19), (1, vR 13), (3, vI x3), (4, vI x4), (5, vI x5)] [] (shC o0 o1 o2 o3 rc o5 te o7 o8 o9 o10) K') (H : Ter_copy_r_71 L27 x3 x4 x5 x6 s0 s1 rc te K) (hK : ∀ (r : Int) (te' : Ob), K r te' → K' (some (vI r)) (shC o0 o1 o2 o3 rc o5 te' o7 o8 o9 o10)) : EV l prog_9_method_5_code "PrunedSearch$Terms" 7 (some .int) 1 71 [(0, vR 19), (1, vR 13), (3, vI x3), (4, vI x4), (5, vI x5), (6, vI x6)] [vI s0, vI s1, vR 20] (shC o0 o1 o2 o3 rc o5 te o7 o8 o9 o10) K' := by
  obtain ⟨hi, H⟩ := H
  refine EV_iast d_Ter_copy_r_71 shC_20 hi shC_20_s ?_
  refine EV_aload_n 0 d_Ter_copy_r_72 rfl rfl ?_
  refine EV_get (j := 1) d_Ter_copy_r_73 shC_19 rfl fI6 (by decide) k_156 rfl ?_
  refine EV_aload_n 0 d_Ter_copy_r_76 rfl rfl ?_
  refine EV_get (j := 7) d_Ter_copy_r_77 shC_19 rfl fI6 (by decide) k_162 rfl ?_
  refine EV_aload_n 1 d_Ter_copy_r_80 rfl rfl ?_
  refine EV_iload 4 d_Ter_copy_r_81 rfl ?_
  refine EV_callV (as := [vI x5]) (st := [vI (te.1 0), vR 21]) d_Ter_copy_r_83 k_660 k_661 k_662 k_4 k_663 shC_13 rfl pd_106 ⟨by decide, by decide, Nat.le_of_ble_eq_true rfl⟩ rfl (ct_Cod_sizeAt_r H (fun r_5 H => ?_))
  obtain ⟨hi, H⟩ := H
  refine EV_iast d_Ter_copy_r_86 shC_21 hi shC_21_s ?_
  refine EV_aload_n 0 d_Ter_copy_r_87 rfl rfl ?_
  refine EV_get (j := 2) d_Ter_copy_r_88 shC_19 rfl fI6 (by decide) k_157 rfl ?_
  refine EV_aload_n 0 d_Ter_copy_r_91 rfl rfl ?_
  refine EV_get (j := 7) d_Ter_copy_r_92 shC_19 rfl fI6 (by decide) k_162 rfl ?_
  refine EV_iload 5 d_Ter_copy_r_95 rfl ?_
  refine EV_bipush d_Ter_copy_r_97 (by decide +kernel) ⟨by decide, by decide⟩ ?_
  refine EV_icmp_gt (tgt := 114) d_Ter_copy_r_99 (by decide) (fun hc => ?_) (fun hc => ?_)
  · have H := H.1 hc
    refine EV_iconst d_Ter_copy_r_114 ⟨by decide, by decide⟩ ?_
    refine EV_lv (lv' := [(0, vR 19), (1, vR 13), (3, vI x3), (4, vI x4), (5, vI x5)]) [0, 1, 2, 3, 4] rfl ?_
    exact ct_Ter_copy_r_115 hL27 H hK
  · have H := H.2 hc
    refine EV_aload_n 0 d_Ter_copy_r_102 rfl rfl ?_
    refine EV_bipush d_Ter_copy_r_103 (by decide +kernel) ⟨by decide, by decide⟩ ?_
    refine EV_iload 5 d_Ter_copy_r_105 rfl ?_
    obtain ⟨hr, H⟩ := H
    refine EV_isub d_Ter_copy_r_107 hr ?_
    refine EV_callV (as := [vI ((-2) - x6)]) (st := [vI (te.1 0), vR 22]) d_Ter_copy_r_108 k_664 k_666 kp_17 k_8 k_667 shC_19 rfl pd_105 ⟨by decide, by decide, Nat.le_of_ble_eq_true rfl⟩ rfl (ct_Ter_sameVariable H (fun r_7 te_6 H => ?_))
    refine EV_goto (tgt := 115) d_Ter_copy_r_111 (by decide) ?_
    refine EV_lv (lv' := [(0, vR 19), (1, vR 13), (3, vI x3), (4, vI x4), (5, vI x5)]) [0, 1, 2, 3, 4] rfl ?_
    exact ct_Ter_copy_r_115 hL27 H hK
theorem ct_Ter_copy_r_27 {l : Launch} {o0 o1 o2 o3 rc o5 o7 o8 o9 o10 : Ob} {K : Int → Ob → Prop} {K' : Option AV → List AC → Prop} (hK : ∀ (r : Int) (te' : Ob), K r te' → K' (some (vI r)) (shC o0 o1 o2 o3 rc o5 te' o7 o8 o9 o10)) : ∀ (n : Nat) (x3 : Int) (x4 : Int) (x5 : Int) (te : Ob), Ter_copy_r_27 n x3 x4 x5 rc te K → EV l prog_9_method_5_code "PrunedSearch$Terms" 7 (some .int) 1 27 [(0, vR 19), (1, vR 13), (3, vI x3), (4, vI x4), (5, vI x5)] [] (shC o0 o1 o2 o3 rc o5 te o7 o8 o9 o10) K' := by
  intro n
  induction n with
  | zero =>
    intro x3 x4 x5 te H
    exact H.elim
  | succ n ih =>
    intro x3 x4 x5 te H
    refine EV_iload 4 d_Ter_copy_r_27 rfl ?_
    refine EV_iload 3 d_Ter_copy_r_29 rfl ?_
    refine EV_icmp_ge (tgt := 132) d_Ter_copy_r_31 (by decide) (fun hc => ?_) (fun hc => ?_)
    · have H := H.1 hc
      refine EV_iload_n 2 d_Ter_copy_r_132 rfl rfl ?_
      exact EV_iret d_Ter_copy_r_133 rfl (nw_int _) (hK _ _ H)
    · have H := H.2 hc
      refine EV_aload_n 0 d_Ter_copy_r_34 rfl rfl ?_
      refine EV_get (j := 7) d_Ter_copy_r_35 shC_19 rfl fI6 (by decide) k_162 rfl ?_
      refine EV_sipush d_Ter_copy_r_38 (by decide +kernel) ⟨by decide, by decide⟩ ?_
      refine EV_icmp_ge (tgt := 132) d_Ter_copy_r_41 (by decide) (fun hc => ?_) (fun hc => ?_)
      · have H := H.1 hc
        refine EV_iload_n 2 d_Ter_copy_r_132 rfl rfl ?_
        exact EV_iret d_Ter_copy_r_133 rfl (nw_int _) (hK _ _ H)
      · have H := H.2 hc
        refine EV_aload_n 1 d_Ter_copy_r_44 rfl rfl ?_
        refine EV_iload 4 d_Ter_copy_r_45 rfl ?_
        refine EV_callV (as := [vI x5]) (st := []) d_Ter_copy_r_47 k_659 k_633 k_634 k_4 k_635 shC_13 rfl pd_98 ⟨by decide, by decide, Nat.le_of_ble_eq_true rfl⟩ rfl (ct_Cod_symbolAt_r H (fun r_4 H => ?_))
        refine EV_istore (lv' := [(0, vR 19), (1, vR 13), (3, vI x3), (4, vI x4), (5, vI x5), (6, vI r_4)]) [1, 2, 3, 4, 5, 0] d_Ter_copy_r_50 (by decide) rfl ?_
        refine EV_aload_n 0 d_Ter_copy_r_52 rfl rfl ?_
        refine EV_get (j := 0) d_Ter_copy_r_53 shC_19 rfl fI6 (by decide) k_155 rfl ?_
        refine EV_aload_n 0 d_Ter_copy_r_56 rfl rfl ?_
        refine EV_get (j := 7) d_Ter_copy_r_57 shC_19 rfl fI6 (by decide) k_162 rfl ?_
        refine EV_iload 5 d_Ter_copy_r_60 rfl ?_
        refine EV_if_ge (tgt := 69) d_Ter_copy_r_62 (by decide) (fun hc => ?_) (fun hc => ?_)
        · have H := H.1 hc
          refine EV_iload 5 d_Ter_copy_r_69 rfl ?_
          exact ct_Ter_copy_r_71 (fun x3 x4 x5 te' H => ih x3 x4 x5 te' H) H hK
        · have H := H.2 hc
          refine EV_iconst d_Ter_copy_r_65 ⟨by decide, by decide⟩ ?_
          refine EV_goto (tgt := 71) d_Ter_copy_r_66 (by decide) ?_
          exact ct_Ter_copy_r_71 (fun x3 x4 x5 te' H => ih x3 x4 x5 te' H) H hK
theorem ct_Ter_copy_r {l : Launch} {o0 o1 o2 o3 rc o5 te o7 o8 o9 o10 : Ob} {x2 : Int} {K : Int → Ob → Prop} {K' : Option AV → List AC → Prop} (H : wp_Ter_copy_r x2 rc te K) (hK : ∀ (r : Int) (te' : Ob), K r te' → K' (some (vI r)) (shC o0 o1 o2 o3 rc o5 te' o7 o8 o9 o10)) : MT l ⟨"PrunedSearch$Terms", "copy", "(LPrunedSearch$Code;I)I"⟩ prog_9_method_5_code 7 (some .int) 1 [vR 19, vR 13, vI x2] (shC o0 o1 o2 o3 rc o5 te o7 o8 o9 o10) K' := by
  unfold wp_Ter_copy_r at H
  refine MT_of (lv := [(0, vR 19), (1, vR 13), (2, vI x2)]) rfl rfl (Nat.le_of_ble_eq_true rfl) rfl ?_
  refine EV_aload_n 0 d_Ter_copy_r_0 rfl rfl ?_
  refine EV_get (j := 6) d_Ter_copy_r_1 shC_19 rfl fI6 (by decide) k_161 rfl ?_
  refine EV_iconst d_Ter_copy_r_4 ⟨by decide, by decide⟩ ?_
  refine EV_callT (as := [vR 26, vI (-1)]) (st := []) d_Ter_copy_r_5 k_654 k_655 k_19 k_656 pd_107 ⟨by decide, by decide, Nat.le_of_ble_eq_true rfl⟩ rfl (ct_Arr_fill_26 H (fun te_1 H => ?_))
  refine EV_aload_n 0 d_Ter_copy_r_8 rfl rfl ?_
  refine EV_get (j := 7) d_Ter_copy_r_9 shC_19 rfl fI6 (by decide) k_162 rfl ?_
  refine EV_istore_n (lv' := [(0, vR 19), (1, vR 13), (2, vI x2), (3, vI (te_1.1 0))]) [1, 2, 3, 0] d_Ter_copy_r_12 rfl (by decide) rfl ?_
  refine EV_aload_n 1 d_Ter_copy_r_13 rfl rfl ?_
  refine EV_iload_n 2 d_Ter_copy_r_14 rfl rfl ?_
  refine EV_callV (as := [vI x2]) (st := []) d_Ter_copy_r_15 k_657 k_629 k_630 k_4 k_631 shC_13 rfl pd_99 ⟨by decide, by decide, Nat.le_of_ble_eq_true rfl⟩ rfl (ct_Cod_endOf_r H (fun r_2 H => ?_))
  refine EV_istore (lv' := [(0, vR 19), (1, vR 13), (2, vI x2), (3, vI (te_1.1 0)), (4, vI r_2)]) [1, 2, 3, 4, 0] d_Ter_copy_r_18 (by decide) rfl ?_
  refine EV_aload_n 1 d_Ter_copy_r_20 rfl rfl ?_
  refine EV_iload_n 2 d_Ter_copy_r_21 rfl rfl ?_
  refine EV_callV (as := [vI x2]) (st := []) d_Ter_copy_r_22 k_658 k_581 k_582 k_4 k_583 shC_13 rfl pd_83 ⟨by decide, by decide, Nat.le_of_ble_eq_true rfl⟩ rfl (ct_Cod_startOf_r H (fun r_3 H => ?_))
  refine EV_istore (lv' := [(0, vR 19), (1, vR 13), (2, vI x2), (3, vI (te_1.1 0)), (4, vI r_2), (5, vI r_3)]) [1, 2, 3, 4, 5, 0] d_Ter_copy_r_25 (by decide) rfl ?_
  refine EV_lv (lv' := [(0, vR 19), (1, vR 13), (3, vI (te_1.1 0)), (4, vI r_2), (5, vI r_3)]) [0, 1, 3, 4, 5] rfl ?_
  obtain ⟨n, H⟩ := H
  exact ct_Ter_copy_r_27 hK n (te_1.1 0) r_2 r_3 te_1 H
theorem ct_Ter_cellCount {l : Launch} {o0 o1 o2 o3 o4 o5 te o7 o8 o9 o10 : Ob} {K : Int → Prop} {K' : Option AV → List AC → Prop} (H : wp_Ter_cellCount te K) (hK : ∀ (r : Int), K r → K' (some (vI r)) (shC o0 o1 o2 o3 o4 o5 te o7 o8 o9 o10)) : MT l ⟨"PrunedSearch$Terms", "cellCount", "()I"⟩ prog_9_method_2_code 1 (some .int) 0 [vR 19] (shC o0 o1 o2 o3 o4 o5 te o7 o8 o9 o10) K' := by
  unfold wp_Ter_cellCount at H
  refine MT_of (lv := [(0, vR 19)]) rfl rfl (Nat.le_of_ble_eq_true rfl) rfl ?_
  refine EV_aload_n 0 d_Ter_cellCount_0 rfl rfl ?_
  refine EV_get (j := 7) d_Ter_cellCount_1 shC_19 rfl fI6 (by decide) k_162 rfl ?_
  exact EV_iret d_Ter_cellCount_4 rfl (nw_int _) (hK _ H)
theorem ct_Ter_sizeAt {l : Launch} {o0 o1 o2 o3 o4 o5 te o7 o8 o9 o10 : Ob} {x1 : Int} {K : Int → Prop} {K' : Option AV → List AC → Prop} (H : wp_Ter_sizeAt x1 te K) (hK : ∀ (r : Int), K r → K' (some (vI r)) (shC o0 o1 o2 o3 o4 o5 te o7 o8 o9 o10)) : MT l ⟨"PrunedSearch$Terms", "sizeAt", "(I)I"⟩ prog_9_method_9_code 2 (some .int) 0 [vR 19, vI x1] (shC o0 o1 o2 o3 o4 o5 te o7 o8 o9 o10) K' := by
  unfold wp_Ter_sizeAt at H
  refine MT_of (lv := [(0, vR 19), (1, vI x1)]) rfl rfl (Nat.le_of_ble_eq_true rfl) rfl ?_
  refine EV_iload_n 1 d_Ter_sizeAt_0 rfl rfl ?_
  refine EV_if_lt (tgt := 21) d_Ter_sizeAt_1 (by decide) (fun hc => ?_) (fun hc => ?_)
  · have H := H.1 hc
    refine EV_iconst d_Ter_sizeAt_21 ⟨by decide, by decide⟩ ?_
    exact EV_iret d_Ter_sizeAt_22 rfl (nw_int _) (hK _ H)
  · have H := H.2 hc
    refine EV_iload_n 1 d_Ter_sizeAt_4 rfl rfl ?_
    refine EV_aload_n 0 d_Ter_sizeAt_5 rfl rfl ?_
    refine EV_get (j := 7) d_Ter_sizeAt_6 shC_19 rfl fI6 (by decide) k_162 rfl ?_
    refine EV_icmp_ge (tgt := 21) d_Ter_sizeAt_9 (by decide) (fun hc => ?_) (fun hc => ?_)
    · have H := H.1 hc
      refine EV_iconst d_Ter_sizeAt_21 ⟨by decide, by decide⟩ ?_
      exact EV_iret d_Ter_sizeAt_22 rfl (nw_int _) (hK _ H)
    · have H := H.2 hc
      refine EV_aload_n 0 d_Ter_sizeAt_12 rfl rfl ?_
      refine EV_get (j := 1) d_Ter_sizeAt_13 shC_19 rfl fI6 (by decide) k_156 rfl ?_
      refine EV_iload_n 1 d_Ter_sizeAt_16 rfl rfl ?_
      obtain ⟨hi, H⟩ := H
      refine EV_iald d_Ter_sizeAt_17 shC_21 hi ?_
      refine EV_goto (tgt := 22) d_Ter_sizeAt_18 (by decide) ?_
      exact EV_iret d_Ter_sizeAt_22 rfl (nw_int _) (hK _ H)
theorem ct_Goa_putBefore_99 {l : Launch} {o0 o1 o2 o3 o4 o5 te o8 o9 o10 : Ob} {K : Ob → Prop} {K' : Option AV → List AC → Prop} {L15 : Int → Int → Int → Int → Int → Int → Ob → Prop} {x3 : Int} {x4 : Int} {x5 : Int} {x7 : Int} {x8 : Int} {go : Ob} (hL15 : ∀ (x3 : Int) (x4 : Int) (x5 : Int) (x6 : Int) (x7 : Int) (x8 : Int) (go : Ob), L15 x3 x4 x5 x6 x7 x8 go → EV l prog_5_method_6_code "PrunedSearch$Goals" 9 none 1 15 [(0, vR 27), (1, vR 19), (3, vI x3), (4, vI x4), (5, vI x5), (6, vI x6), (7, vI x7), (8, vI x8)] [] (shC o0 o1 o2 o3 o4 o5 te go o8 o9 o10) K') (H : Goa_putBefore_99 L15 x3 x4 x5 x7 x8 te go K) (hK : ∀ (go' : Ob), K go' → K' none (shC o0 o1 o2 o3 o4 o5 te go' o8 o9 o10)) : EV l prog_5_method_6_code "PrunedSearch$Goals" 9 none 1 99 [(0, vR 27), (1, vR 19), (3, vI x3), (4, vI x4), (5, vI x5), (7, vI x7), (8, vI x8)] [] (shC o0 o1 o2 o3 o4 o5 te go o8 o9 o10) K' := by
  refine EV_aload_n 0 d_Goa_putBefore_99 rfl rfl ?_
  refine EV_get (j := 3) d_Goa_putBefore_100 shC_27 rfl fI7 (by decide) k_198 rfl ?_
  refine EV_istore (lv' := [(0, vR 27), (1, vR 19), (3, vI x3), (4, vI x4), (5, vI x5), (6, vI (go.1 0)), (7, vI x7), (8, vI x8)]) [1, 2, 3, 4, 5, 0, 6, 7] d_Goa_putBefore_103 (by decide) rfl ?_
  refine EV_aload_n 0 d_Goa_putBefore_105 rfl rfl ?_
  refine EV_dup d_Goa_putBefore_106 rfl ?_
  refine EV_get (j := 3) d_Goa_putBefore_107 shC_27 rfl fI7 (by decide) k_198 rfl ?_
  refine EV_iconst d_Goa_putBefore_110 ⟨by decide, by decide⟩ ?_
  obtain ⟨hr, H⟩ := H
  refine EV_iadd d_Goa_putBefore_111 hr ?_
  refine EV_put (j := 3) d_Goa_putBefore_112 shC_27 rfl fI7 fO7 fN7 (by decide) k_198 rfl rfl (fun ad => nf_int ad _) (Nat.le_of_ble_eq_true rfl) shC_27_3 ?_
  refine EV_iload 6 d_Goa_putBefore_115 rfl ?_
  refine EV_aload_n 1 d_Goa_putBefore_117 rfl rfl ?_
  refine EV_iload 6 d_Goa_putBefore_118 rfl ?_
  refine EV_callV (as := [vI x7]) (st := [vI x7]) d_Goa_putBefore_120 k_676 k_677 k_678 k_8 k_679 shC_19 rfl pd_108 ⟨by decide, by decide, Nat.le_of_ble_eq_true rfl⟩ rfl (ct_Ter_sizeAt H (fun r_1 H => ?_))
  obtain ⟨hr, H⟩ := H
  refine EV_iadd d_Goa_putBefore_123 hr ?_
  refine EV_istore (lv' := [(0, vR 27), (1, vR 19), (3, vI x3), (4, vI x4), (5, vI x5), (6, vI (go.1 0)), (7, vI (x7 + r_1)), (8, vI x8)]) [1, 2, 3, 4, 5, 6, 0, 7] d_Goa_putBefore_124 (by decide) rfl ?_
  obtain ⟨hr, H⟩ := H
  refine EV_iinc (lv' := [(0, vR 27), (1, vR 19), (3, vI x3), (4, vI x4), (5, vI x5), (6, vI (go.1 0)), (7, vI (x7 + r_1)), (8, vI (x8 + 1))]) 7 [1, 2, 3, 4, 5, 6, 7, 0] d_Goa_putBefore_126 rfl (by decide) hr rfl ?_
  refine EV_goto (tgt := 15) d_Goa_putBefore_129 (by decide) ?_
  exact hL15 x3 x4 x5 (go.1 0) (x7 + r_1) (x8 + 1) (sI go 0 ((go.1 0) + 1)) H
theorem ct_Goa_putBefore_15 {l : Launch} {o0 o1 o2 o3 o4 o5 te o8 o9 o10 : Ob} {K : Ob → Prop} {K' : Option AV → List AC → Prop} (hK : ∀ (go' : Ob), K go' → K' none (shC o0 o1 o2 o3 o4 o5 te go' o8 o9 o10)) : ∀ (n : Nat) (x3 : Int) (x4 : Int) (x5 : Int) (x6 : Int) (x7 : Int) (x8 : Int) (go : Ob), Goa_putBefore_15 n x3 x4 x5 x6 x7 x8 te go K → EV l prog_5_method_6_code "PrunedSearch$Goals" 9 none 1 15 [(0, vR 27), (1, vR 19), (3, vI x3), (4, vI x4), (5, vI x5), (6, vI x6), (7, vI x7), (8, vI x8)] [] (shC o0 o1 o2 o3 o4 o5 te go o8 o9 o10) K' := by
  intro n
  induction n with
  | zero =>
    intro x3 x4 x5 x6 x7 x8 go H
    exact H.elim
  | succ n ih =>
    intro x3 x4 x5 x6 x7 x8 go H
    refine EV_iload 7 d_Goa_putBefore_15 rfl ?_
    refine EV_bipush d_Goa_putBefore_17 (by decide +kernel) ⟨by decide, by decide⟩ ?_
    refine EV_icmp_ge (tgt := 132) d_Goa_putBefore_19 (by decide) (fun hc => ?_) (fun hc => ?_)
    · have H := H.1 hc
      exact EV_vret d_Goa_putBefore_132 rfl (hK _ H)
    · have H := H.2 hc
      refine EV_iload 6 d_Goa_putBefore_22 rfl ?_
      refine EV_iload_n 2 d_Goa_putBefore_24 rfl rfl ?_
      refine EV_icmp_ge (tgt := 132) d_Goa_putBefore_25 (by decide) (fun hc => ?_) (fun hc => ?_)
      · have H := H.1 hc
        exact EV_vret d_Goa_putBefore_132 rfl (hK _ H)
      · have H := H.2 hc
        refine EV_aload_n 0 d_Goa_putBefore_28 rfl rfl ?_
        refine EV_get (j := 3) d_Goa_putBefore_29 shC_27 rfl fI7 (by decide) k_198 rfl ?_
        refine EV_sipush d_Goa_putBefore_32 (by decide +kernel) ⟨by decide, by decide⟩ ?_
        refine EV_icmp_ge (tgt := 132) d_Goa_putBefore_35 (by decide) (fun hc => ?_) (fun hc => ?_)
        · have H := H.1 hc
          exact EV_vret d_Goa_putBefore_132 rfl (hK _ H)
        · have H := H.2 hc
          refine EV_aload_n 0 d_Goa_putBefore_38 rfl rfl ?_
          refine EV_get (j := 0) d_Goa_putBefore_39 shC_27 rfl fI7 (by decide) k_195 rfl ?_
          refine EV_aload_n 0 d_Goa_putBefore_42 rfl rfl ?_
          refine EV_get (j := 3) d_Goa_putBefore_43 shC_27 rfl fI7 (by decide) k_198 rfl ?_
          refine EV_iload 6 d_Goa_putBefore_46 rfl ?_
          obtain ⟨hi, H⟩ := H
          refine EV_iast d_Goa_putBefore_48 shC_28 hi shC_28_s ?_
          refine EV_aload_n 0 d_Goa_putBefore_49 rfl rfl ?_
          refine EV_get (j := 1) d_Goa_putBefore_50 shC_27 rfl fI7 (by decide) k_196 rfl ?_
          refine EV_aload_n 0 d_Goa_putBefore_53 rfl rfl ?_
          refine EV_get (j := 3) d_Goa_putBefore_54 shC_27 rfl fI7 (by decide) k_198 rfl ?_
          refine EV_iload 3 d_Goa_putBefore_57 rfl ?_
          obtain ⟨hi, H⟩ := H
          refine EV_iast d_Goa_putBefore_59 shC_29 hi shC_29_s ?_
          refine EV_aload_n 0 d_Goa_putBefore_60 rfl rfl ?_
          refine EV_get (j := 2) d_Goa_putBefore_61 shC_27 rfl fI7 (by decide) k_197 rfl ?_
          refine EV_aload_n 0 d_Goa_putBefore_64 rfl rfl ?_
          refine EV_get (j := 3) d_Goa_putBefore_65 shC_27 rfl fI7 (by decide) k_198 rfl ?_
          refine EV_iload 4 d_Goa_putBefore_68 rfl ?_
          obtain ⟨hi, H⟩ := H
          refine EV_iast d_Goa_putBefore_70 shC_30 hi shC_30_s ?_
          refine EV_iload 5 d_Goa_putBefore_71 rfl ?_
          refine EV_iconst d_Goa_putBefore_73 ⟨by decide, by decide⟩ ?_
          refine EV_icmp_ne (tgt := 88) d_Goa_putBefore_74 (by decide) (fun hc => ?_) (fun hc => ?_)
          · have H := H.1 hc
            refine EV_aload_n 0 d_Goa_putBefore_88 rfl rfl ?_
            refine EV_get (j := 2) d_Goa_putBefore_89 shC_27 rfl fI7 (by decide) k_197 rfl ?_
            refine EV_iload 5 d_Goa_putBefore_92 rfl ?_
            refine EV_aload_n 0 d_Goa_putBefore_94 rfl rfl ?_
            refine EV_get (j := 3) d_Goa_putBefore_95 shC_27 rfl fI7 (by decide) k_198 rfl ?_
            obtain ⟨hi, H⟩ := H
            refine EV_iast d_Goa_putBefore_98 shC_30 hi shC_30_s ?_
            refine EV_lv (lv' := [(0, vR 27), (1, vR 19), (3, vI x3), (4, vI x4), (5, vI x5), (7, vI x7), (8, vI x8)]) [0, 1, 2, 3, 4, 6, 7] rfl ?_
            exact ct_Goa_putBefore_99 (fun x3 x4 x5 x6 x7 x8 go' H => ih x3 x4 x5 x6 x7 x8 go' H) H hK
          · have H := H.2 hc
            refine EV_aload_n 0 d_Goa_putBefore_77 rfl rfl ?_
            refine EV_aload_n 0 d_Goa_putBefore_78 rfl rfl ?_
            refine EV_get (j := 3) d_Goa_putBefore_79 shC_27 rfl fI7 (by decide) k_198 rfl ?_
            refine EV_put (j := 4) d_Goa_putBefore_82 shC_27 rfl fI7 fO7 fN7 (by decide) k_199 rfl rfl (fun ad => nf_int ad _) (Nat.le_of_ble_eq_true rfl) shC_27_4 ?_
            refine EV_goto (tgt := 99) d_Goa_putBefore_85 (by decide) ?_
            refine EV_lv (lv' := [(0, vR 27), (1, vR 19), (3, vI x3), (4, vI x4), (5, vI x5), (7, vI x7), (8, vI x8)]) [0, 1, 2, 3, 4, 6, 7] rfl ?_
            exact ct_Goa_putBefore_99 (fun x3 x4 x5 x6 x7 x8 go' H => ih x3 x4 x5 x6 x7 x8 go' H) H hK
theorem ct_Goa_putBefore {l : Launch} {o0 o1 o2 o3 o4 o5 te go o8 o9 o10 : Ob} {x2 : Int} {x3 : Int} {x4 : Int} {K : Ob → Prop} {K' : Option AV → List AC → Prop} (H : wp_Goa_putBefore x2 x3 x4 te go K) (hK : ∀ (go' : Ob), K go' → K' none (shC o0 o1 o2 o3 o4 o5 te go' o8 o9 o10)) : MT l ⟨"PrunedSearch$Goals", "putBefore", "(LPrunedSearch$Terms;III)V"⟩ prog_5_method_6_code 9 none 1 [vR 27, vR 19, vI x2, vI x3, vI x4] (shC o0 o1 o2 o3 o4 o5 te go o8 o9 o10) K' := by
  unfold wp_Goa_putBefore at H
  refine MT_of (lv := [(0, vR 27), (1, vR 19), (2, vI x2), (3, vI x3), (4, vI x4)]) rfl rfl (Nat.le_of_ble_eq_true rfl) rfl ?_
  refine EV_aload_n 0 d_Goa_putBefore_0 rfl rfl ?_
  refine EV_get (j := 4) d_Goa_putBefore_1 shC_27 rfl fI7 (by decide) k_199 rfl ?_
  refine EV_istore (lv' := [(0, vR 27), (1, vR 19), (2, vI x2), (3, vI x3), (4, vI x4), (5, vI (go.1 1))]) [1, 2, 3, 4, 5, 0] d_Goa_putBefore_4 (by decide) rfl ?_
  refine EV_iconst d_Goa_putBefore_6 ⟨by decide, by decide⟩ ?_
  refine EV_istore (lv' := [(0, vR 27), (1, vR 19), (2, vI x2), (3, vI x3), (4, vI x4), (5, vI (go.1 1)), (6, vI (-1))]) [1, 2, 3, 4, 5, 6, 0] d_Goa_putBefore_7 (by decide) rfl ?_
  refine EV_iload_n 2 d_Goa_putBefore_9 rfl rfl ?_
  refine EV_istore (lv' := [(0, vR 27), (1, vR 19), (2, vI x2), (3, vI x3), (4, vI x4), (5, vI (go.1 1)), (6, vI (-1)), (7, vI x2)]) [1, 2, 3, 4, 5, 6, 7, 0] d_Goa_putBefore_10 (by decide) rfl ?_
  refine EV_iconst d_Goa_putBefore_12 ⟨by decide, by decide⟩ ?_
  refine EV_istore (lv' := [(0, vR 27), (1, vR 19), (2, vI x2), (3, vI x3), (4, vI x4), (5, vI (go.1 1)), (6, vI (-1)), (7, vI x2), (8, vI 0)]) [1, 2, 3, 4, 5, 6, 7, 8, 0] d_Goa_putBefore_13 (by decide) rfl ?_
  refine EV_lv (lv' := [(0, vR 27), (1, vR 19), (3, vI x3), (4, vI x4), (5, vI (go.1 1)), (6, vI (-1)), (7, vI x2), (8, vI 0)]) [0, 1, 3, 4, 5, 6, 7, 8] rfl ?_
  obtain ⟨n, H⟩ := H
  exact ct_Goa_putBefore_15 hK n x3 x4 (go.1 1) (-1) x2 0 go H
