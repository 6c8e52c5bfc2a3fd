/-! printed by wip/gen/drive.py -/
theorem ct_Sea_choose_44 {l : Launch} {o0 o1 o2 o3 o4 o5 te go o10 : Ob} {K : Int → Ob → Ob → Prop} {K' : Option AV → List AC → Prop} {x2 : Int} {ch se : Ob} (H : Sea_choose_44 x2 te go ch se K) (hK : ∀ (r : Int) (ch' se' : Ob), K r ch' se' → K' (some (vI r)) (shC o0 o1 o2 o3 o4 o5 te go ch' se' o10)) : EV l prog_7_method_8_code "PrunedSearch$Search" 4 (some .int) 2 44 [(2, vI x2)] [] (shC o0 o1 o2 o3 o4 o5 te go ch se o10) K' := by
  refine EV_iload_n 0 d_Sea_choose_44 rfl rfl ?_
  refine EV_callT (as := [vI x2]) (st := []) d_Sea_choose_45 k_789 k_732 k_10 k_733 pd_117 ⟨by decide, by decide, Nat.le_of_ble_eq_true rfl⟩ rfl (ct_Cho_firstOf H (fun r_3 H => ?_))
  exact EV_iret d_Sea_choose_48 rfl (nw_int _) (hK _ _ _ H)
theorem ct_Sea_choose {l : Launch} {o0 o1 o2 o3 o4 o5 te go ch se o10 : Ob} {x1 : Int} {x2 : Int} {K : Int → Ob → Ob → Prop} {K' : Option AV → List AC → Prop} (H : wp_Sea_choose x1 x2 te go ch se K) (hK : ∀ (r : Int) (ch' se' : Ob), K r ch' se' → K' (some (vI r)) (shC o0 o1 o2 o3 o4 o5 te go ch' se' o10)) : MT l ⟨"PrunedSearch$Search", "choose", "(II)I"⟩ prog_7_method_8_code 4 (some .int) 2 [vR 38, vI x1, vI x2] (shC o0 o1 o2 o3 o4 o5 te go ch se o10) K' := by
  unfold wp_Sea_choose at H
  refine MT_of (lv := [(0, vR 38), (1, vI x1), (2, vI x2)]) rfl rfl (Nat.le_of_ble_eq_true rfl) rfl ?_
  refine EV_aload_n 0 d_Sea_choose_0 rfl rfl ?_
  refine EV_aload_n 0 d_Sea_choose_1 rfl rfl ?_
  refine EV_get (j := 4) d_Sea_choose_2 shC_38 rfl fI9 (by decide) k_280 rfl ?_
  refine EV_callV (as := []) (st := [vR 38]) d_Sea_choose_5 k_693 k_694 k_695 k_10 k_696 shC_31 rfl pd_119 ⟨by decide, by decide, Nat.le_of_ble_eq_true rfl⟩ rfl (ct_Cho_count H (fun r_1 H => ?_))
  refine EV_put (j := 13) d_Sea_choose_8 shC_38 rfl fI9 fO9 fN9 (by decide) k_289 rfl rfl (fun ad => nf_int ad _) (Nat.le_of_ble_eq_true rfl) shC_38_13 ?_
  refine EV_iload_n 2 d_Sea_choose_11 rfl rfl ?_
  refine EV_callT (as := [vI x2]) (st := []) d_Sea_choose_12 k_775 k_735 k_10 k_736 pd_116 ⟨by decide, by decide, Nat.le_of_ble_eq_true rfl⟩ rfl (ct_Cho_withoutFirst H (fun r_2 H => ?_))
  refine EV_istore_n (lv' := [(0, vR 38), (1, vI x1), (2, vI x2), (3, vI r_2)]) [1, 2, 3, 0] d_Sea_choose_15 rfl (by decide) rfl ?_
  refine EV_iload_n 3 d_Sea_choose_16 rfl rfl ?_
  refine EV_if_eq (tgt := 44) d_Sea_choose_17 (by decide) (fun hc => ?_) (fun hc => ?_)
  · have H := H.1 hc
    refine EV_lv (lv' := [(2, vI x2)]) [2] rfl ?_
    exact ct_Sea_choose_44 H hK
  · have H := H.2 hc
    refine EV_aload_n 0 d_Sea_choose_20 rfl rfl ?_
    refine EV_get (j := 4) d_Sea_choose_21 shC_38 rfl fI9 (by decide) k_280 rfl ?_
    refine EV_iload_n 1 d_Sea_choose_24 rfl rfl ?_
    refine EV_aload_n 0 d_Sea_choose_25 rfl rfl ?_
    refine EV_get (j := 3) d_Sea_choose_26 shC_38 rfl fI9 (by decide) k_279 rfl ?_
    refine EV_callV (as := []) (st := [vI x1, vR 31]) d_Sea_choose_29 k_776 k_777 k_778 k_9 k_779 shC_27 rfl pd_140 ⟨by decide, by decide, Nat.le_of_ble_eq_true rfl⟩ rfl (ct_Goa_heldCount H (fun r_4 H => ?_))
    refine EV_aload_n 0 d_Sea_choose_32 rfl rfl ?_
    refine EV_get (j := 2) d_Sea_choose_33 shC_38 rfl fI9 (by decide) k_278 rfl ?_
    refine EV_aload_n 0 d_Sea_choose_36 rfl rfl ?_
    refine EV_get (j := 10) d_Sea_choose_37 shC_38 rfl fI9 (by decide) k_286 rfl ?_
    refine EV_iload_n 3 d_Sea_choose_40 rfl rfl ?_
    refine EV_callV (as := [vI x1, vI r_4, vR 19, vI (se.1 3), vI r_2]) (st := []) d_Sea_choose_41 k_780 k_781 k_782 k_10 k_783 shC_31 rfl pd_139 ⟨by decide, by decide, Nat.le_of_ble_eq_true rfl⟩ rfl (ct_Cho_put H (fun ch_5 H => ?_))
    refine EV_lv (lv' := [(2, vI x2)]) [2] rfl ?_
    exact ct_Sea_choose_44 H hK
theorem ct_Sea_candidates_141 {l : Launch} {o0 o1 o2 pr o4 o5 te o7 o8 se o10 : Ob} {K : Int → Prop} {K' : Option AV → List AC → Prop} {L48 : Int → Int → Int → Int → Int → Prop} {x1 : Int} {x2 : Int} {x3 : Int} {x4 : Int} {x5 : Int} (hL48 : ∀ (x1 : Int) (x2 : Int) (x3 : Int) (x4 : Int) (x5 : Int), L48 x1 x2 x3 x4 x5 → EV l prog_7_method_9_code "PrunedSearch$Search" 9 (some .int) 2 48 [(0, vR 38), (1, vI x1), (2, vI x2), (3, vI x3), (4, vI x4), (5, vI x5)] [] (shC o0 o1 o2 pr o4 o5 te o7 o8 se o10) K') (H : Sea_candidates_141 L48 x1 x2 x3 x4 x5 pr te se K) (hK : ∀ (r : Int), K r → K' (some (vI r)) (shC o0 o1 o2 pr o4 o5 te o7 o8 se o10)) : EV l prog_7_method_9_code "PrunedSearch$Search" 9 (some .int) 2 141 [(0, vR 38), (1, vI x1), (2, vI x2), (3, vI x3), (4, vI x4), (5, vI x5)] [] (shC o0 o1 o2 pr o4 o5 te o7 o8 se o10) K' := by
  obtain ⟨hr, H⟩ := H
  refine EV_iinc (lv' := [(0, vR 38), (1, vI x1), (2, vI x2), (3, vI x3), (4, vI x4), (5, vI (x5 + 1))]) 5 [1, 2, 3, 4, 5, 0] d_Sea_candidates_141 rfl (by decide) hr rfl ?_
  refine EV_goto (tgt := 48) d_Sea_candidates_144 (by decide) ?_
  exact hL48 x1 x2 x3 x4 (x5 + 1) H
theorem ct_Sea_candidates_112 {l : Launch} {o0 o1 o2 pr o4 o5 te o7 o8 se o10 : Ob} {K : Int → Prop} {K' : Option AV → List AC → Prop} {L48 : Int → Int → Int → Int → Int → Prop} {x1 : Int} {x2 : Int} {x3 : Int} {x4 : Int} {x5 : Int} {x6 : Int} {s0 : Int} (hL48 : ∀ (x1 : Int) (x2 : Int) (x3 : Int) (x4 : Int) (x5 : Int), L48 x1 x2 x3 x4 x5 → EV l prog_7_method_9_code "PrunedSearch$Search" 9 (some .int) 2 48 [(0, vR 38), (1, vI x1), (2, vI x2), (3, vI x3), (4, vI x4), (5, vI x5)] [] (shC o0 o1 o2 pr o4 o5 te o7 o8 se o10) K') (H : Sea_candidates_112 L48 x1 x2 x3 x4 x5 x6 s0 pr te se K) (hK : ∀ (r : Int), K r → K' (some (vI r)) (shC o0 o1 o2 pr o4 o5 te o7 o8 se o10)) : EV l prog_7_method_9_code "PrunedSearch$Search" 9 (some .int) 2 112 [(0, vR 38), (1, vI x1), (2, vI x2), (3, vI x3), (4, vI x4), (5, vI x5), (6, vI x6)] [vI s0] (shC o0 o1 o2 pr o4 o5 te o7 o8 se o10) K' := by
  refine EV_istore (lv' := [(0, vR 38), (1, vI x1), (2, vI x2), (3, vI x3), (4, vI x4), (5, vI x5), (6, vI x6), (8, vI s0)]) [1, 2, 3, 4, 5, 6, 7, 0] d_Sea_candidates_112 (by decide) rfl ?_
  refine EV_aload_n 0 d_Sea_candidates_114 rfl rfl ?_
  refine EV_get (j := 0) d_Sea_candidates_115 shC_38 rfl fI9 (by decide) k_276 rfl ?_
  refine EV_iload 6 d_Sea_candidates_118 rfl ?_
  refine EV_callV (as := [vI x6]) (st := []) d_Sea_candidates_120 k_770 k_633 k_634 k_4 k_635 shC_9 rfl pd_98 ⟨by decide, by decide, Nat.le_of_ble_eq_true rfl⟩ rfl (ct_Cod_symbolAt_p H (fun r_7 H => ?_))
  refine EV_iload_n 1 d_Sea_candidates_123 rfl rfl ?_
  refine EV_icmp_ne (tgt := 141) d_Sea_candidates_124 (by decide) (fun hc => ?_) (fun hc => ?_)
  · have H := H.1 hc
    refine EV_lv (lv' := [(0, vR 38), (1, vI x1), (2, vI x2), (3, vI x3), (4, vI x4), (5, vI x5)]) [0, 1, 2, 3, 4, 5] rfl ?_
    exact ct_Sea_candidates_141 hL48 H hK
  · have H := H.2 hc
    refine EV_iload 7 d_Sea_candidates_127 rfl ?_
    refine EV_if_eq (tgt := 141) d_Sea_candidates_129 (by decide) (fun hc => ?_) (fun hc => ?_)
    · have H := H.1 hc
      refine EV_lv (lv' := [(0, vR 38), (1, vI x1), (2, vI x2), (3, vI x3), (4, vI x4), (5, vI x5)]) [0, 1, 2, 3, 4, 5] rfl ?_
      exact ct_Sea_candidates_141 hL48 H hK
    · have H := H.2 hc
      refine EV_iload 4 d_Sea_candidates_132 rfl ?_
      refine EV_iconst d_Sea_candidates_134 ⟨by decide, by decide⟩ ?_
      refine EV_iload 5 d_Sea_candidates_135 rfl ?_
      obtain ⟨h1, hr, H⟩ := H
      refine EV_ishl d_Sea_candidates_137 (by decide) h1 hr ?_
      obtain ⟨h0, h1, H⟩ := H
      refine EV_ior d_Sea_candidates_138 h0 h1 ?_
      refine EV_istore (lv' := [(0, vR 38), (1, vI x1), (2, vI x2), (3, vI x3), (4, vI ((Int.toNat x4 ||| Int.toNat ((1 : Int) * 2 ^ (x5).toNat) : Nat) : Int)), (5, vI x5), (6, vI x6), (8, vI s0)]) [1, 2, 3, 4, 0, 5, 6, 7] d_Sea_candidates_139 (by decide) rfl ?_
      refine EV_lv (lv' := [(0, vR 38), (1, vI x1), (2, vI x2), (3, vI x3), (4, vI ((Int.toNat x4 ||| Int.toNat ((1 : Int) * 2 ^ (x5).toNat) : Nat) : Int)), (5, vI x5)]) [0, 1, 2, 3, 4, 5] rfl ?_
      exact ct_Sea_candidates_141 hL48 H hK
theorem ct_Sea_candidates_107 {l : Launch} {o0 o1 o2 pr o4 o5 te o7 o8 se o10 : Ob} {K : Int → Prop} {K' : Option AV → List AC → Prop} {L48 : Int → Int → Int → Int → Int → Prop} {x1 : Int} {x2 : Int} {x3 : Int} {x4 : Int} {x5 : Int} {x6 : Int} (hL48 : ∀ (x1 : Int) (x2 : Int) (x3 : Int) (x4 : Int) (x5 : Int), L48 x1 x2 x3 x4 x5 → EV l prog_7_method_9_code "PrunedSearch$Search" 9 (some .int) 2 48 [(0, vR 38), (1, vI x1), (2, vI x2), (3, vI x3), (4, vI x4), (5, vI x5)] [] (shC o0 o1 o2 pr o4 o5 te o7 o8 se o10) K') (H : Sea_candidates_107 L48 x1 x2 x3 x4 x5 x6 pr te se K) (hK : ∀ (r : Int), K r → K' (some (vI r)) (shC o0 o1 o2 pr o4 o5 te o7 o8 se o10)) : EV l prog_7_method_9_code "PrunedSearch$Search" 9 (some .int) 2 107 [(0, vR 38), (1, vI x1), (2, vI x2), (3, vI x3), (4, vI x4), (5, vI x5), (6, vI x6)] [] (shC o0 o1 o2 pr o4 o5 te o7 o8 se o10) K' := by
  refine EV_iconst d_Sea_candidates_107 ⟨by decide, by decide⟩ ?_
  refine EV_goto (tgt := 112) d_Sea_candidates_108 (by decide) ?_
  exact ct_Sea_candidates_112 hL48 H hK
theorem ct_Sea_candidates_90 {l : Launch} {o0 o1 o2 pr o4 o5 te o7 o8 se o10 : Ob} {K : Int → Prop} {K' : Option AV → List AC → Prop} {L48 : Int → Int → Int → Int → Int → Prop} {x1 : Int} {x2 : Int} {x3 : Int} {x4 : Int} {x5 : Int} {x6 : Int} {s0 : Int} (hL48 : ∀ (x1 : Int) (x2 : Int) (x3 : Int) (x4 : Int) (x5 : Int), L48 x1 x2 x3 x4 x5 → EV l prog_7_method_9_code "PrunedSearch$Search" 9 (some .int) 2 48 [(0, vR 38), (1, vI x1), (2, vI x2), (3, vI x3), (4, vI x4), (5, vI x5)] [] (shC o0 o1 o2 pr o4 o5 te o7 o8 se o10) K') (H : Sea_candidates_90 L48 x1 x2 x3 x4 x5 x6 s0 pr te se K) (hK : ∀ (r : Int), K r → K' (some (vI r)) (shC o0 o1 o2 pr o4 o5 te o7 o8 se o10)) : EV l prog_7_method_9_code "PrunedSearch$Search" 9 (some .int) 2 90 [(0, vR 38), (1, vI x1), (2, vI x2), (3, vI x3), (4, vI x4), (5, vI x5), (6, vI x6)] [vI s0] (shC o0 o1 o2 pr o4 o5 te o7 o8 se o10) K' := by
  refine EV_istore (lv' := [(0, vR 38), (1, vI x1), (2, vI x2), (3, vI x3), (4, vI x4), (5, vI x5), (6, vI x6), (7, vI s0)]) [1, 2, 3, 4, 5, 6, 7, 0] d_Sea_candidates_90 (by decide) rfl ?_
  refine EV_iload_n 3 d_Sea_candidates_92 rfl rfl ?_
  refine EV_if_lt (tgt := 107) d_Sea_candidates_93 (by decide) (fun hc => ?_) (fun hc => ?_)
  · have H := H.1 hc
    refine EV_lv (lv' := [(0, vR 38), (1, vI x1), (2, vI x2), (3, vI x3), (4, vI x4), (5, vI x5), (6, vI x6)]) [0, 1, 2, 3, 4, 5, 6] rfl ?_
    exact ct_Sea_candidates_107 hL48 H hK
  · have H := H.2 hc
    refine EV_iload 7 d_Sea_candidates_96 rfl ?_
    refine EV_if_lt (tgt := 107) d_Sea_candidates_98 (by decide) (fun hc => ?_) (fun hc => ?_)
    · have H := H.1 hc
      refine EV_lv (lv' := [(0, vR 38), (1, vI x1), (2, vI x2), (3, vI x3), (4, vI x4), (5, vI x5), (6, vI x6)]) [0, 1, 2, 3, 4, 5, 6] rfl ?_
      exact ct_Sea_candidates_107 hL48 H hK
    · have H := H.2 hc
      refine EV_iload_n 3 d_Sea_candidates_101 rfl rfl ?_
      refine EV_iload 7 d_Sea_candidates_102 rfl ?_
      refine EV_icmp_ne (tgt := 111) d_Sea_candidates_104 (by decide) (fun hc => ?_) (fun hc => ?_)
      · have H := H.1 hc
        refine EV_iconst d_Sea_candidates_111 ⟨by decide, by decide⟩ ?_
        refine EV_lv (lv' := [(0, vR 38), (1, vI x1), (2, vI x2), (3, vI x3), (4, vI x4), (5, vI x5), (6, vI x6)]) [0, 1, 2, 3, 4, 5, 6] rfl ?_
        exact ct_Sea_candidates_112 hL48 H hK
      · have H := H.2 hc
        refine EV_lv (lv' := [(0, vR 38), (1, vI x1), (2, vI x2), (3, vI x3), (4, vI x4), (5, vI x5), (6, vI x6)]) [0, 1, 2, 3, 4, 5, 6] rfl ?_
        exact ct_Sea_candidates_107 hL48 H hK
theorem ct_Sea_candidates_48 {l : Launch} {o0 o1 o2 pr o4 o5 te o7 o8 se o10 : Ob} {K : Int → Prop} {K' : Option AV → List AC → Prop} (hK : ∀ (r : Int), K r → K' (some (vI r)) (shC o0 o1 o2 pr o4 o5 te o7 o8 se o10)) : ∀ (n : Nat) (x1 : Int) (x2 : Int) (x3 : Int) (x4 : Int) (x5 : Int), Sea_candidates_48 n x1 x2 x3 x4 x5 pr te se K → EV l prog_7_method_9_code "PrunedSearch$Search" 9 (some .int) 2 48 [(0, vR 38), (1, vI x1), (2, vI x2), (3, vI x3), (4, vI x4), (5, vI x5)] [] (shC o0 o1 o2 pr o4 o5 te o7 o8 se o10) K' := by
  intro n
  induction n with
  | zero =>
    intro x1 x2 x3 x4 x5 H
    exact H.elim
  | succ n ih =>
    intro x1 x2 x3 x4 x5 H
    refine EV_iload 5 d_Sea_candidates_48 rfl ?_
    refine EV_aload_n 0 d_Sea_candidates_50 rfl rfl ?_
    refine EV_get (j := 0) d_Sea_candidates_51 shC_38 rfl fI9 (by decide) k_276 rfl ?_
    refine EV_callV (as := []) (st := [vI x5]) d_Sea_candidates_54 k_768 k_468 k_469 k_4 k_470 shC_9 rfl pd_88 ⟨by decide, by decide, Nat.le_of_ble_eq_true rfl⟩ rfl (ct_Cod_partCount_p H (fun r_4 H => ?_))
    refine EV_icmp_ge (tgt := 147) d_Sea_candidates_57 (by decide) (fun hc => ?_) (fun hc => ?_)
    · have H := H.1 hc
      refine EV_iload 4 d_Sea_candidates_147 rfl ?_
      exact EV_iret d_Sea_candidates_149 rfl (nw_int _) (hK _ H)
    · have H := H.2 hc
      refine EV_aload_n 0 d_Sea_candidates_60 rfl rfl ?_
      refine EV_get (j := 0) d_Sea_candidates_61 shC_38 rfl fI9 (by decide) k_276 rfl ?_
      refine EV_iload 5 d_Sea_candidates_64 rfl ?_
      refine EV_callV (as := [vI x5]) (st := []) d_Sea_candidates_66 k_769 k_581 k_582 k_4 k_583 shC_9 rfl pd_83 ⟨by decide, by decide, Nat.le_of_ble_eq_true rfl⟩ rfl (ct_Cod_startOf_p H (fun r_5 H => ?_))
      refine EV_istore (lv' := [(0, vR 38), (1, vI x1), (2, vI x2), (3, vI x3), (4, vI x4), (5, vI x5), (6, vI r_5)]) [1, 2, 3, 4, 5, 6, 0] d_Sea_candidates_69 (by decide) rfl ?_
      refine EV_iload_n 2 d_Sea_candidates_71 rfl rfl ?_
      refine EV_if_eq (tgt := 79) d_Sea_candidates_72 (by decide) (fun hc => ?_) (fun hc => ?_)
      · have H := H.1 hc
        refine EV_aload_n 0 d_Sea_candidates_79 rfl rfl ?_
        refine EV_get (j := 0) d_Sea_candidates_80 shC_38 rfl fI9 (by decide) k_276 rfl ?_
        refine EV_iload 6 d_Sea_candidates_83 rfl ?_
        refine EV_iconst d_Sea_candidates_85 ⟨by decide, by decide⟩ ?_
        obtain ⟨hr, H⟩ := H
        refine EV_iadd d_Sea_candidates_86 hr ?_
        refine EV_callV (as := [vI (r_5 + 1)]) (st := []) d_Sea_candidates_87 k_770 k_633 k_634 k_4 k_635 shC_9 rfl pd_98 ⟨by decide, by decide, Nat.le_of_ble_eq_true rfl⟩ rfl (ct_Cod_symbolAt_p H (fun r_6 H => ?_))
        exact ct_Sea_candidates_90 (fun x1 x2 x3 x4 x5 H => ih x1 x2 x3 x4 x5 H) H hK
      · have H := H.2 hc
        refine EV_iconst d_Sea_candidates_75 ⟨by decide, by decide⟩ ?_
        refine EV_goto (tgt := 90) d_Sea_candidates_76 (by decide) ?_
        exact ct_Sea_candidates_90 (fun x1 x2 x3 x4 x5 H => ih x1 x2 x3 x4 x5 H) H hK
theorem ct_Sea_candidates_41 {l : Launch} {o0 o1 o2 pr o4 o5 te o7 o8 se o10 : Ob} {K : Int → Prop} {K' : Option AV → List AC → Prop} {x1 : Int} {x2 : Int} {s0 : Int} (H : Sea_candidates_41 x1 x2 s0 pr te se K) (hK : ∀ (r : Int), K r → K' (some (vI r)) (shC o0 o1 o2 pr o4 o5 te o7 o8 se o10)) : EV l prog_7_method_9_code "PrunedSearch$Search" 9 (some .int) 2 41 [(0, vR 38), (1, vI x1), (2, vI x2)] [vI s0] (shC o0 o1 o2 pr o4 o5 te o7 o8 se o10) K' := by
  refine EV_istore_n (lv' := [(0, vR 38), (1, vI x1), (2, vI x2), (3, vI s0)]) [1, 2, 3, 0] d_Sea_candidates_41 rfl (by decide) rfl ?_
  refine EV_iconst d_Sea_candidates_42 ⟨by decide, by decide⟩ ?_
  refine EV_istore (lv' := [(0, vR 38), (1, vI x1), (2, vI x2), (3, vI s0), (4, vI 0)]) [1, 2, 3, 4, 0] d_Sea_candidates_43 (by decide) rfl ?_
  refine EV_iconst d_Sea_candidates_45 ⟨by decide, by decide⟩ ?_
  refine EV_istore (lv' := [(0, vR 38), (1, vI x1), (2, vI x2), (3, vI s0), (4, vI 0), (5, vI 0)]) [1, 2, 3, 4, 5, 0] d_Sea_candidates_46 (by decide) rfl ?_
  obtain ⟨n, H⟩ := H
  exact ct_Sea_candidates_48 hK n x1 x2 s0 0 0 H
theorem ct_Sea_candidates_12 {l : Launch} {o0 o1 o2 pr o4 o5 te o7 o8 se o10 : Ob} {K : Int → Prop} {K' : Option AV → List AC → Prop} {x1 : Int} {s0 : Int} (H : Sea_candidates_12 x1 s0 pr te se K) (hK : ∀ (r : Int), K r → K' (some (vI r)) (shC o0 o1 o2 pr o4 o5 te o7 o8 se o10)) : EV l prog_7_method_9_code "PrunedSearch$Search" 9 (some .int) 2 12 [(0, vR 38), (1, vI x1)] [vI s0] (shC o0 o1 o2 pr o4 o5 te o7 o8 se o10) K' := by
  refine EV_istore_n (lv' := [(0, vR 38), (1, vI x1), (2, vI s0)]) [1, 2, 0] d_Sea_candidates_12 rfl (by decide) rfl ?_
  refine EV_iload_n 2 d_Sea_candidates_13 rfl rfl ?_
  refine EV_if_eq (tgt := 21) d_Sea_candidates_14 (by decide) (fun hc => ?_) (fun hc => ?_)
  · have H := H.1 hc
    refine EV_aload_n 0 d_Sea_candidates_21 rfl rfl ?_
    refine EV_get (j := 2) d_Sea_candidates_22 shC_38 rfl fI9 (by decide) k_278 rfl ?_
    refine EV_aload_n 0 d_Sea_candidates_25 rfl rfl ?_
    refine EV_get (j := 2) d_Sea_candidates_26 shC_38 rfl fI9 (by decide) k_278 rfl ?_
    refine EV_aload_n 0 d_Sea_candidates_29 rfl rfl ?_
    refine EV_get (j := 12) d_Sea_candidates_30 shC_38 rfl fI9 (by decide) k_288 rfl ?_
    refine EV_iconst d_Sea_candidates_33 ⟨by decide, by decide⟩ ?_
    obtain ⟨hr, H⟩ := H
    refine EV_iadd d_Sea_candidates_34 hr ?_
    refine EV_callV (as := [vI ((se.1 5) + 1)]) (st := [vR 19]) d_Sea_candidates_35 k_760 k_761 k_762 k_8 k_763 shC_19 rfl pd_129 ⟨by decide, by decide, Nat.le_of_ble_eq_true rfl⟩ rfl (ct_Ter_standing H (fun r_2 H => ?_))
    refine EV_callV (as := [vI r_2]) (st := []) d_Sea_candidates_38 k_741 k_742 k_743 k_8 k_744 shC_19 rfl pd_126 ⟨by decide, by decide, Nat.le_of_ble_eq_true rfl⟩ rfl (ct_Ter_symbolAt H (fun r_3 H => ?_))
    exact ct_Sea_candidates_41 H hK
  · have H := H.2 hc
    refine EV_iconst d_Sea_candidates_17 ⟨by decide, by decide⟩ ?_
    refine EV_goto (tgt := 41) d_Sea_candidates_18 (by decide) ?_
    exact ct_Sea_candidates_41 H hK
theorem ct_Sea_candidates {l : Launch} {o0 o1 o2 pr o4 o5 te o7 o8 se o10 : Ob} {x1 : Int} {K : Int → Prop} {K' : Option AV → List AC → Prop} (H : wp_Sea_candidates x1 pr te se K) (hK : ∀ (r : Int), K r → K' (some (vI r)) (shC o0 o1 o2 pr o4 o5 te o7 o8 se o10)) : MT l ⟨"PrunedSearch$Search", "candidates", "(I)I"⟩ prog_7_method_9_code 9 (some .int) 2 [vR 38, vI x1] (shC o0 o1 o2 pr o4 o5 te o7 o8 se o10) K' := by
  unfold wp_Sea_candidates at H
  refine MT_of (lv := [(0, vR 38), (1, vI x1)]) rfl rfl (Nat.le_of_ble_eq_true rfl) rfl ?_
  refine EV_iload_n 1 d_Sea_candidates_0 rfl rfl ?_
  refine EV_callN (as := [vI x1]) (st := []) d_Sea_candidates_1 k_749 k_593 k_1 k_594 pd_84 ⟨by decide, by decide, Nat.le_of_ble_eq_true rfl⟩ rfl (ct_P_argumentsOf H (fun r_1 H => ?_))
  refine EV_if_ne (tgt := 11) d_Sea_candidates_4 (by decide) (fun hc => ?_) (fun hc => ?_)
  · have H := H.1 hc
    refine EV_iconst d_Sea_candidates_11 ⟨by decide, by decide⟩ ?_
    exact ct_Sea_candidates_12 H hK
  · have H := H.2 hc
    refine EV_iconst d_Sea_candidates_7 ⟨by decide, by decide⟩ ?_
    refine EV_goto (tgt := 12) d_Sea_candidates_8 (by decide) ?_
    exact ct_Sea_candidates_12 H hK
theorem ct_Sea_takeGoal_124 {l : Launch} {o0 o1 nm pr o4 o5 te o10 : Ob} {K : Int → Ob → Ob → Ob → Prop} {K' : Option AV → List AC → Prop} {x1 : Int} {s0 : Int} {go ch se : Ob} (H : Sea_takeGoal_124 x1 s0 nm pr te go ch se K) (hK : ∀ (r : Int) (go' ch' se' : Ob), K r go' ch' se' → K' (some (vI r)) (shC o0 o1 nm pr o4 o5 te go' ch' se' o10)) : EV l prog_7_method_7_code "PrunedSearch$Search" 5 (some .int) 3 124 [(0, vR 38), (1, vI x1)] [vI s0] (shC o0 o1 nm pr o4 o5 te go ch se o10) K' := by
  refine EV_istore (lv' := [(0, vR 38), (1, vI x1), (4, vI s0)]) [1, 2, 0] d_Sea_takeGoal_124 (by decide) rfl ?_
  refine EV_iload 2 d_Sea_takeGoal_126 rfl ?_
  refine EV_if_ne (tgt := 138) d_Sea_takeGoal_128 (by decide) (fun hc => ?_) (fun hc => ?_)
  · have H := H.1 hc
    refine EV_aload_n 0 d_Sea_takeGoal_138 rfl rfl ?_
    refine EV_get (j := 10) d_Sea_takeGoal_139 shC_38 rfl fI9 (by decide) k_286 rfl ?_
    refine EV_bipush d_Sea_takeGoal_142 (by decide +kernel) ⟨by decide, by decide⟩ ?_
    refine EV_icmp_ne (tgt := 154) d_Sea_takeGoal_144 (by decide) (fun hc => ?_) (fun hc => ?_)
    · have H := H.1 hc
      refine EV_aload_n 0 d_Sea_takeGoal_154 rfl rfl ?_
      refine EV_iload_n 1 d_Sea_takeGoal_155 rfl rfl ?_
      refine EV_iload 2 d_Sea_takeGoal_156 rfl ?_
      refine EV_callV (as := [vI x1, vI s0]) (st := []) d_Sea_takeGoal_158 k_771 k_773 kp_23 k_7 k_774 shC_38 rfl pd_141 ⟨by decide, by decide, Nat.le_of_ble_eq_true rfl⟩ rfl (ct_Sea_choose H (fun r_9 ch_7 se_8 H => ?_))
      exact EV_iret d_Sea_takeGoal_161 rfl (nw_int _) (hK _ _ _ _ H)
    · have H := H.2 hc
      refine EV_aload_n 0 d_Sea_takeGoal_147 rfl rfl ?_
      refine EV_iconst d_Sea_takeGoal_148 ⟨by decide, by decide⟩ ?_
      refine EV_put (j := 8) d_Sea_takeGoal_149 shC_38 rfl fI9 fO9 fN9 (by decide) k_284 rfl rfl (fun ad => nf_int ad _) (Nat.le_of_ble_eq_true rfl) shC_38_8 ?_
      refine EV_iconst d_Sea_takeGoal_152 ⟨by decide, by decide⟩ ?_
      exact EV_iret d_Sea_takeGoal_153 rfl (nw_int _) (hK _ _ _ _ H)
  · have H := H.2 hc
    refine EV_aload_n 0 d_Sea_takeGoal_131 rfl rfl ?_
    refine EV_iconst d_Sea_takeGoal_132 ⟨by decide, by decide⟩ ?_
    refine EV_put (j := 9) d_Sea_takeGoal_133 shC_38 rfl fI9 fO9 fN9 (by decide) k_285 rfl rfl (fun ad => nf_bool ad (by decide)) (Nat.le_of_ble_eq_true rfl) shC_38_9 ?_
    refine EV_iconst d_Sea_takeGoal_136 ⟨by decide, by decide⟩ ?_
    exact EV_iret d_Sea_takeGoal_137 rfl (nw_int _) (hK _ _ _ _ H)
theorem ct_Sea_takeGoal_119 {l : Launch} {o0 o1 nm pr o4 o5 te o10 : Ob} {K : Int → Ob → Ob → Ob → Prop} {K' : Option AV → List AC → Prop} {x1 : Int} {x2 : Int} {go ch se : Ob} (H : Sea_takeGoal_119 x1 x2 nm pr te go ch se K) (hK : ∀ (r : Int) (go' ch' se' : Ob), K r go' ch' se' → K' (some (vI r)) (shC o0 o1 nm pr o4 o5 te go' ch' se' o10)) : EV l prog_7_method_7_code "PrunedSearch$Search" 5 (some .int) 3 119 [(0, vR 38), (1, vI x1), (2, vI x2)] [] (shC o0 o1 nm pr o4 o5 te go ch se o10) K' := by
  refine EV_aload_n 0 d_Sea_takeGoal_119 rfl rfl ?_
  refine EV_iload_n 2 d_Sea_takeGoal_120 rfl rfl ?_
  refine EV_callV (as := [vI x2]) (st := []) d_Sea_takeGoal_121 k_756 k_758 kp_21 k_7 k_759 shC_38 rfl pd_142 ⟨by decide, by decide, Nat.le_of_ble_eq_true rfl⟩ rfl (ct_Sea_candidates H (fun r_6 H => ?_))
  refine EV_lv (lv' := [(0, vR 38), (1, vI x1)]) [0, 1] rfl ?_
  exact ct_Sea_takeGoal_124 H hK
theorem ct_Sea_takeGoal_96 {l : Launch} {o0 o1 nm pr o4 o5 te o10 : Ob} {K : Int → Ob → Ob → Ob → Prop} {K' : Option AV → List AC → Prop} {x1 : Int} {x2 : Int} {x3 : Int} {go ch se : Ob} (H : Sea_takeGoal_96 x1 x2 x3 nm pr te go ch se K) (hK : ∀ (r : Int) (go' ch' se' : Ob), K r go' ch' se' → K' (some (vI r)) (shC o0 o1 nm pr o4 o5 te go' ch' se' o10)) : EV l prog_7_method_7_code "PrunedSearch$Search" 5 (some .int) 3 96 [(0, vR 38), (1, vI x1), (2, vI x2), (3, vI x3)] [] (shC o0 o1 nm pr o4 o5 te go ch se o10) K' := by
  refine EV_iload_n 3 d_Sea_takeGoal_96 rfl rfl ?_
  refine EV_if_eq (tgt := 119) d_Sea_takeGoal_97 (by decide) (fun hc => ?_) (fun hc => ?_)
  · have H := H.1 hc
    refine EV_lv (lv' := [(0, vR 38), (1, vI x1), (2, vI x2)]) [0, 1, 2] rfl ?_
    exact ct_Sea_takeGoal_119 H hK
  · have H := H.2 hc
    refine EV_aload_n 0 d_Sea_takeGoal_100 rfl rfl ?_
    refine EV_get (j := 1) d_Sea_takeGoal_101 shC_38 rfl fI9 (by decide) k_277 rfl ?_
    refine EV_iload_n 2 d_Sea_takeGoal_104 rfl rfl ?_
    refine EV_callV (as := [vI x2]) (st := []) d_Sea_takeGoal_105 k_750 k_751 k_752 k_3 k_753 shC_7 rfl pd_143 ⟨by decide, by decide, Nat.le_of_ble_eq_true rfl⟩ rfl (ct_Nam_wordOf H (fun r_10 H => ?_))
    refine EV_ldc2 (n := 1818845542) d_Sea_takeGoal_108 k_755 (by decide +kernel) (by decide) ?_
    refine EV_lcmp_ne (tgt := 119) d_Sea_takeGoal_111 d_Sea_takeGoal_112 (by decide) (fun hc => ?_) (fun hc => ?_)
    · have H := H.1 hc
      refine EV_lv (lv' := [(0, vR 38), (1, vI x1), (2, vI x2)]) [0, 1, 2] rfl ?_
      exact ct_Sea_takeGoal_119 H hK
    · have H := H.2 hc
      refine EV_iconst d_Sea_takeGoal_115 ⟨by decide, by decide⟩ ?_
      refine EV_goto (tgt := 124) d_Sea_takeGoal_116 (by decide) ?_
      refine EV_lv (lv' := [(0, vR 38), (1, vI x1)]) [0, 1] rfl ?_
      exact ct_Sea_takeGoal_124 H hK
theorem ct_Sea_takeGoal_74 {l : Launch} {o0 o1 nm pr o4 o5 te o10 : Ob} {K : Int → Ob → Ob → Ob → Prop} {K' : Option AV → List AC → Prop} {x1 : Int} {x2 : Int} {s0 : Int} {go ch se : Ob} (H : Sea_takeGoal_74 x1 x2 s0 nm pr te go ch se K) (hK : ∀ (r : Int) (go' ch' se' : Ob), K r go' ch' se' → K' (some (vI r)) (shC o0 o1 nm pr o4 o5 te go' ch' se' o10)) : EV l prog_7_method_7_code "PrunedSearch$Search" 5 (some .int) 3 74 [(0, vR 38), (1, vI x1), (2, vI x2)] [vI s0] (shC o0 o1 nm pr o4 o5 te go ch se o10) K' := by
  refine EV_istore_n (lv' := [(0, vR 38), (1, vI x1), (2, vI x2), (3, vI s0)]) [1, 2, 3, 0] d_Sea_takeGoal_74 rfl (by decide) rfl ?_
  refine EV_iload_n 3 d_Sea_takeGoal_75 rfl rfl ?_
  refine EV_if_eq (tgt := 96) d_Sea_takeGoal_76 (by decide) (fun hc => ?_) (fun hc => ?_)
  · have H := H.1 hc
    exact ct_Sea_takeGoal_96 H hK
  · have H := H.2 hc
    refine EV_aload_n 0 d_Sea_takeGoal_79 rfl rfl ?_
    refine EV_get (j := 1) d_Sea_takeGoal_80 shC_38 rfl fI9 (by decide) k_277 rfl ?_
    refine EV_iload_n 2 d_Sea_takeGoal_83 rfl rfl ?_
    refine EV_callV (as := [vI x2]) (st := []) d_Sea_takeGoal_84 k_750 k_751 k_752 k_3 k_753 shC_7 rfl pd_143 ⟨by decide, by decide, Nat.le_of_ble_eq_true rfl⟩ rfl (ct_Nam_wordOf H (fun r_11 H => ?_))
    refine EV_ldc2 (n := 1702195828) d_Sea_takeGoal_87 k_754 (by decide +kernel) (by decide) ?_
    refine EV_lcmp_ne (tgt := 96) d_Sea_takeGoal_90 d_Sea_takeGoal_91 (by decide) (fun hc => ?_) (fun hc => ?_)
    · have H := H.1 hc
      exact ct_Sea_takeGoal_96 H hK
    · have H := H.2 hc
      refine EV_iconst d_Sea_takeGoal_94 ⟨by decide, by decide⟩ ?_
      exact EV_iret d_Sea_takeGoal_95 rfl (nw_int _) (hK _ _ _ _ H)
theorem ct_Sea_takeGoal {l : Launch} {o0 o1 nm pr o4 o5 te go ch se o10 : Ob} {K : Int → Ob → Ob → Ob → Prop} {K' : Option AV → List AC → Prop} (H : wp_Sea_takeGoal nm pr te go ch se K) (hK : ∀ (r : Int) (go' ch' se' : Ob), K r go' ch' se' → K' (some (vI r)) (shC o0 o1 nm pr o4 o5 te go' ch' se' o10)) : MT l ⟨"PrunedSearch$Search", "takeGoal", "()I"⟩ prog_7_method_7_code 5 (some .int) 3 [vR 38] (shC o0 o1 nm pr o4 o5 te go ch se o10) K' := by
  unfold wp_Sea_takeGoal at H
  refine MT_of (lv := [(0, vR 38)]) rfl rfl (Nat.le_of_ble_eq_true rfl) rfl ?_
  refine EV_aload_n 0 d_Sea_takeGoal_0 rfl rfl ?_
  refine EV_get (j := 3) d_Sea_takeGoal_1 shC_38 rfl fI9 (by decide) k_279 rfl ?_
  refine EV_callV (as := []) (st := []) d_Sea_takeGoal_4 k_711 k_712 k_713 k_9 k_714 shC_27 rfl pd_122 ⟨by decide, by decide, Nat.le_of_ble_eq_true rfl⟩ rfl (ct_Goa_first H (fun r_1 H => ?_))
  refine EV_istore_n (lv' := [(0, vR 38), (1, vI r_1)]) [1, 0] d_Sea_takeGoal_7 rfl (by decide) rfl ?_
  refine EV_aload_n 0 d_Sea_takeGoal_8 rfl rfl ?_
  refine EV_aload_n 0 d_Sea_takeGoal_9 rfl rfl ?_
  refine EV_get (j := 3) d_Sea_takeGoal_10 shC_38 rfl fI9 (by decide) k_279 rfl ?_
  refine EV_iload_n 1 d_Sea_takeGoal_13 rfl rfl ?_
  refine EV_callV (as := [vI r_1]) (st := [vR 38]) d_Sea_takeGoal_14 k_715 k_716 k_717 k_9 k_718 shC_27 rfl pd_121 ⟨by decide, by decide, Nat.le_of_ble_eq_true rfl⟩ rfl (ct_Goa_termOf H (fun r_2 H => ?_))
  refine EV_put (j := 12) d_Sea_takeGoal_17 shC_38 rfl fI9 fO9 fN9 (by decide) k_288 rfl rfl (fun ad => nf_int ad _) (Nat.le_of_ble_eq_true rfl) shC_38_12 ?_
  refine EV_aload_n 0 d_Sea_takeGoal_20 rfl rfl ?_
  refine EV_get (j := 3) d_Sea_takeGoal_21 shC_38 rfl fI9 (by decide) k_279 rfl ?_
  refine EV_callV (as := []) (st := []) d_Sea_takeGoal_24 k_719 k_720 k_721 k_9 k_722 shC_27 rfl pd_120 ⟨by decide, by decide, Nat.le_of_ble_eq_true rfl⟩ rfl (ct_Goa_takeFirst H (fun go_3 H => ?_))
  refine EV_aload_n 0 d_Sea_takeGoal_27 rfl rfl ?_
  refine EV_get (j := 2) d_Sea_takeGoal_28 shC_38 rfl fI9 (by decide) k_278 rfl ?_
  refine EV_aload_n 0 d_Sea_takeGoal_31 rfl rfl ?_
  refine EV_get (j := 12) d_Sea_takeGoal_32 shC_38 rfl fI9 (by decide) k_288 rfl ?_
  refine EV_callV (as := [vI r_2]) (st := []) d_Sea_takeGoal_35 k_741 k_742 k_743 k_8 k_744 shC_19 rfl pd_126 ⟨by decide, by decide, Nat.le_of_ble_eq_true rfl⟩ rfl (ct_Ter_symbolAt H (fun r_4 H => ?_))
  refine EV_istore_n (lv' := [(0, vR 38), (1, vI r_1), (2, vI r_4)]) [1, 2, 0] d_Sea_takeGoal_38 rfl (by decide) rfl ?_
  refine EV_iload_n 2 d_Sea_takeGoal_39 rfl rfl ?_
  refine EV_bipush d_Sea_takeGoal_40 (by decide +kernel) ⟨by decide, by decide⟩ ?_
  refine EV_icmp_ne (tgt := 62) d_Sea_takeGoal_42 (by decide) (fun hc => ?_) (fun hc => ?_)
  · have H := H.1 hc
    refine EV_iload_n 2 d_Sea_takeGoal_62 rfl rfl ?_
    refine EV_callN (as := [vI r_4]) (st := []) d_Sea_takeGoal_63 k_749 k_593 k_1 k_594 pd_84 ⟨by decide, by decide, Nat.le_of_ble_eq_true rfl⟩ rfl (ct_P_argumentsOf H (fun r_5 H => ?_))
    refine EV_if_ne (tgt := 73) d_Sea_takeGoal_66 (by decide) (fun hc => ?_) (fun hc => ?_)
    · have H := H.1 hc
      refine EV_iconst d_Sea_takeGoal_73 ⟨by decide, by decide⟩ ?_
      exact ct_Sea_takeGoal_74 H hK
    · have H := H.2 hc
      refine EV_iconst d_Sea_takeGoal_69 ⟨by decide, by decide⟩ ?_
      refine EV_goto (tgt := 74) d_Sea_takeGoal_70 (by decide) ?_
      exact ct_Sea_takeGoal_74 H hK
  · have H := H.2 hc
    refine EV_aload_n 0 d_Sea_takeGoal_45 rfl rfl ?_
    refine EV_get (j := 4) d_Sea_takeGoal_46 shC_38 rfl fI9 (by decide) k_280 rfl ?_
    refine EV_aload_n 0 d_Sea_takeGoal_49 rfl rfl ?_
    refine EV_get (j := 3) d_Sea_takeGoal_50 shC_38 rfl fI9 (by decide) k_279 rfl ?_
    refine EV_iload_n 1 d_Sea_takeGoal_53 rfl rfl ?_
    refine EV_callV (as := [vI r_1]) (st := [vR 31]) d_Sea_takeGoal_54 k_745 k_746 k_747 k_9 k_748 shC_27 rfl pd_144 ⟨by decide, by decide, Nat.le_of_ble_eq_true rfl⟩ rfl (ct_Goa_cutOf H (fun r_12 H => ?_))
    refine EV_callV (as := [vI r_12]) (st := []) d_Sea_takeGoal_57 k_449 k_450 k_451 k_10 k_452 shC_31 rfl pd_62 ⟨by decide, by decide, Nat.le_of_ble_eq_true rfl⟩ rfl (ct_Cho_keepFirst H (fun ch_13 H => ?_))
    refine EV_iconst d_Sea_takeGoal_60 ⟨by decide, by decide⟩ ?_
    exact EV_iret d_Sea_takeGoal_61 rfl (nw_int _) (hK _ _ _ _ H)
theorem ct_Sea_step_63 {l : Launch} {o0 o1 nm pr o4 o5 o10 : Ob} {K : Ob → Ob → Ob → Ob → Prop} {K' : Option AV → List AC → Prop} {te go ch se : Ob} (H : Sea_step_63 nm pr te go ch se K) (hK : ∀ (te' go' ch' se' : Ob), K te' go' ch' se' → K' none (shC o0 o1 nm pr o4 o5 te' go' ch' se' o10)) : EV l prog_7_method_5_code "PrunedSearch$Search" 2 none 5 63 [(0, vR 38)] [] (shC o0 o1 nm pr o4 o5 te go ch se o10) K' := by
  refine EV_aload_n 0 d_Sea_step_63 rfl rfl ?_
  refine EV_get (j := 9) d_Sea_step_64 shC_38 rfl fI9 (by decide) k_285 rfl ?_
  refine EV_if_ne (tgt := 86) d_Sea_step_67 (by decide) (fun hc => ?_) (fun hc => ?_)
  · have H := H.1 hc
    exact EV_vret d_Sea_step_86 rfl (hK _ _ _ _ H)
  · have H := H.2 hc
    refine EV_aload_n 0 d_Sea_step_70 rfl rfl ?_
    refine EV_get (j := 3) d_Sea_step_71 shC_38 rfl fI9 (by decide) k_279 rfl ?_
    refine EV_callV (as := []) (st := []) d_Sea_step_74 k_711 k_712 k_713 k_9 k_714 shC_27 rfl pd_122 ⟨by decide, by decide, Nat.le_of_ble_eq_true rfl⟩ rfl (ct_Goa_first H (fun r_5 H => ?_))
    refine EV_iconst d_Sea_step_77 ⟨by decide, by decide⟩ ?_
    refine EV_icmp_ne (tgt := 86) d_Sea_step_78 (by decide) (fun hc => ?_) (fun hc => ?_)
    · have H := H.1 hc
      exact EV_vret d_Sea_step_86 rfl (hK _ _ _ _ H)
    · have H := H.2 hc
      refine EV_aload_n 0 d_Sea_step_81 rfl rfl ?_
      refine EV_iconst d_Sea_step_82 ⟨by decide, by decide⟩ ?_
      refine EV_put (j := 8) d_Sea_step_83 shC_38 rfl fI9 fO9 fN9 (by decide) k_284 rfl rfl (fun ad => nf_int ad _) (Nat.le_of_ble_eq_true rfl) shC_38_8 ?_
      exact EV_vret d_Sea_step_86 rfl (hK _ _ _ _ H)
theorem ct_Sea_step_29 {l : Launch} {o0 o1 nm pr o4 o5 o10 : Ob} {K : Ob → Ob → Ob → Ob → Prop} {K' : Option AV → List AC → Prop} {te go ch se : Ob} (H : Sea_step_29 nm pr te go ch se K) (hK : ∀ (te' go' ch' se' : Ob), K te' go' ch' se' → K' none (shC o0 o1 nm pr o4 o5 te' go' ch' se' o10)) : EV l prog_7_method_5_code "PrunedSearch$Search" 2 none 5 29 [(0, vR 38)] [] (shC o0 o1 nm pr o4 o5 te go ch se o10) K' := by
  refine EV_aload_n 0 d_Sea_step_29 rfl rfl ?_
  refine EV_get (j := 8) d_Sea_step_30 shC_38 rfl fI9 (by decide) k_284 rfl ?_
  refine EV_iconst d_Sea_step_33 ⟨by decide, by decide⟩ ?_
  refine EV_icmp_eq (tgt := 38) d_Sea_step_34 (by decide) (fun hc => ?_) (fun hc => ?_)
  · have H := H.1 hc
    refine EV_aload_n 0 d_Sea_step_38 rfl rfl ?_
    refine EV_get (j := 9) d_Sea_step_39 shC_38 rfl fI9 (by decide) k_285 rfl ?_
    refine EV_if_eq (tgt := 63) d_Sea_step_42 (by decide) (fun hc => ?_) (fun hc => ?_)
    · have H := H.1 hc
      exact ct_Sea_step_63 H hK
    · have H := H.2 hc
      refine EV_aload_n 0 d_Sea_step_45 rfl rfl ?_
      refine EV_get (j := 4) d_Sea_step_46 shC_38 rfl fI9 (by decide) k_280 rfl ?_
      refine EV_callV (as := []) (st := []) d_Sea_step_49 k_693 k_694 k_695 k_10 k_696 shC_31 rfl pd_119 ⟨by decide, by decide, Nat.le_of_ble_eq_true rfl⟩ rfl (ct_Cho_count H (fun r_6 H => ?_))
      refine EV_if_ne (tgt := 63) d_Sea_step_52 (by decide) (fun hc => ?_) (fun hc => ?_)
      · have H := H.1 hc
        exact ct_Sea_step_63 H hK
      · have H := H.2 hc
        refine EV_aload_n 0 d_Sea_step_55 rfl rfl ?_
        refine EV_iconst d_Sea_step_56 ⟨by decide, by decide⟩ ?_
        refine EV_put (j := 8) d_Sea_step_57 shC_38 rfl fI9 fO9 fN9 (by decide) k_284 rfl rfl (fun ad => nf_int ad _) (Nat.le_of_ble_eq_true rfl) shC_38_8 ?_
        refine EV_goto (tgt := 86) d_Sea_step_60 (by decide) ?_
        exact EV_vret d_Sea_step_86 rfl (hK _ _ _ _ H)
  · have H := H.2 hc
    exact EV_vret d_Sea_step_37 rfl (hK _ _ _ _ H)
theorem ct_Sea_step_18 {l : Launch} {o0 o1 nm pr o4 o5 o10 : Ob} {K : Ob → Ob → Ob → Ob → Prop} {K' : Option AV → List AC → Prop} {s0 : Int} {te go ch se : Ob} (H : Sea_step_18 s0 nm pr te go ch se K) (hK : ∀ (te' go' ch' se' : Ob), K te' go' ch' se' → K' none (shC o0 o1 nm pr o4 o5 te' go' ch' se' o10)) : EV l prog_7_method_5_code "PrunedSearch$Search" 2 none 5 18 [(0, vR 38)] [vI s0] (shC o0 o1 nm pr o4 o5 te go ch se o10) K' := by
  refine EV_istore_n (lv' := [(0, vR 38), (1, vI s0)]) [1, 0] d_Sea_step_18 rfl (by decide) rfl ?_
  refine EV_iload_n 1 d_Sea_step_19 rfl rfl ?_
  refine EV_iconst d_Sea_step_20 ⟨by decide, by decide⟩ ?_
  refine EV_icmp_eq (tgt := 29) d_Sea_step_21 (by decide) (fun hc => ?_) (fun hc => ?_)
  · have H := H.1 hc
    refine EV_lv (lv' := [(0, vR 38)]) [0] rfl ?_
    exact ct_Sea_step_29 H hK
  · have H := H.2 hc
    refine EV_aload_n 0 d_Sea_step_24 rfl rfl ?_
    refine EV_iload_n 1 d_Sea_step_25 rfl rfl ?_
    refine EV_callV (as := [vI s0]) (st := []) d_Sea_step_26 k_790 k_792 kp_24 k_7 k_793 shC_38 rfl pd_145 ⟨by decide, by decide, Nat.le_of_ble_eq_true rfl⟩ rfl (ct_Sea_resolve H (fun te_7 go_8 se_9 H => ?_))
    refine EV_lv (lv' := [(0, vR 38)]) [0] rfl ?_
    exact ct_Sea_step_29 H hK
theorem ct_Sea_step {l : Launch} {o0 o1 nm pr o4 o5 te go ch se o10 : Ob} {K : Ob → Ob → Ob → Ob → Prop} {K' : Option AV → List AC → Prop} (H : wp_Sea_step nm pr te go ch se K) (hK : ∀ (te' go' ch' se' : Ob), K te' go' ch' se' → K' none (shC o0 o1 nm pr o4 o5 te' go' ch' se' o10)) : MT l ⟨"PrunedSearch$Search", "step", "()V"⟩ prog_7_method_5_code 2 none 5 [vR 38] (shC o0 o1 nm pr o4 o5 te go ch se o10) K' := by
  unfold wp_Sea_step at H
  refine MT_of (lv := [(0, vR 38)]) rfl rfl (Nat.le_of_ble_eq_true rfl) rfl ?_
  refine EV_aload_n 0 d_Sea_step_0 rfl rfl ?_
  refine EV_get (j := 9) d_Sea_step_1 shC_38 rfl fI9 (by decide) k_285 rfl ?_
  refine EV_if_eq (tgt := 14) d_Sea_step_4 (by decide) (fun hc => ?_) (fun hc => ?_)
  · have H := H.1 hc
    refine EV_aload_n 0 d_Sea_step_14 rfl rfl ?_
    refine EV_callV (as := []) (st := []) d_Sea_step_15 k_737 k_739 kp_20 k_7 k_740 shC_38 rfl pd_146 ⟨by decide, by decide, Nat.le_of_ble_eq_true rfl⟩ rfl (ct_Sea_takeGoal H (fun r_4 go_1 ch_2 se_3 H => ?_))
    exact ct_Sea_step_18 H hK
  · have H := H.2 hc
    refine EV_aload_n 0 d_Sea_step_7 rfl rfl ?_
    refine EV_callV (as := []) (st := []) d_Sea_step_8 k_701 k_703 kp_19 k_7 k_704 shC_38 rfl pd_147 ⟨by decide, by decide, Nat.le_of_ble_eq_true rfl⟩ rfl (ct_Sea_takeChoice H (fun r_14 te_10 go_11 ch_12 se_13 H => ?_))
    refine EV_goto (tgt := 18) d_Sea_step_11 (by decide) ?_
    exact ct_Sea_step_18 H hK
theorem ct_Sea_goOn_64 {l : Launch} {o0 o1 nm pr o4 o5 : Ob} {K : Int → Ob → Ob → Ob → Ob → Ob → Prop} {K' : Option AV → List AC → Prop} {te go ch se wr : Ob} (H : Sea_goOn_64 nm pr te go ch se wr K) (hK : ∀ (r : Int) (te' go' ch' se' wr' : Ob), K r te' go' ch' se' wr' → K' (some (vI r)) (shC o0 o1 nm pr o4 o5 te' go' ch' se' wr')) : EV l prog_7_method_4_code "PrunedSearch$Search" 3 (some .int) 6 64 [(0, vR 38)] [] (shC o0 o1 nm pr o4 o5 te go ch se wr) K' := by
  refine EV_aload_n 0 d_Sea_goOn_64 rfl rfl ?_
  refine EV_get (j := 8) d_Sea_goOn_65 shC_38 rfl fI9 (by decide) k_284 rfl ?_
  exact EV_iret d_Sea_goOn_68 rfl (nw_int _) (hK _ _ _ _ _ _ H)
theorem ct_Sea_goOn_41 {l : Launch} {o0 o1 nm pr o4 o5 : Ob} {K : Int → Ob → Ob → Ob → Ob → Ob → Prop} {K' : Option AV → List AC → Prop} (hK : ∀ (r : Int) (te' go' ch' se' wr' : Ob), K r te' go' ch' se' wr' → K' (some (vI r)) (shC o0 o1 nm pr o4 o5 te' go' ch' se' wr')) : ∀ (n : Nat) (x1 : Int) (x2 : Int) (te go ch se wr : Ob), Sea_goOn_41 n x1 x2 nm pr te go ch se wr K → EV l prog_7_method_4_code "PrunedSearch$Search" 3 (some .int) 6 41 [(0, vR 38), (1, vI x1), (2, vI x2)] [] (shC o0 o1 nm pr o4 o5 te go ch se wr) K' := by
  intro n
  induction n with
  | zero =>
    intro x1 x2 te go ch se wr H
    exact H.elim
  | succ n ih =>
    intro x1 x2 te go ch se wr H
    refine EV_iload_n 2 d_Sea_goOn_41 rfl rfl ?_
    refine EV_iload_n 1 d_Sea_goOn_42 rfl rfl ?_
    refine EV_icmp_ge (tgt := 64) d_Sea_goOn_43 (by decide) (fun hc => ?_) (fun hc => ?_)
    · have H := H.1 hc
      refine EV_lv (lv' := [(0, vR 38)]) [0] rfl ?_
      exact ct_Sea_goOn_64 H hK
    · have H := H.2 hc
      refine EV_aload_n 0 d_Sea_goOn_46 rfl rfl ?_
      refine EV_get (j := 8) d_Sea_goOn_47 shC_38 rfl fI9 (by decide) k_284 rfl ?_
      refine EV_iconst d_Sea_goOn_50 ⟨by decide, by decide⟩ ?_
      refine EV_icmp_ne (tgt := 64) d_Sea_goOn_51 (by decide) (fun hc => ?_) (fun hc => ?_)
      · have H := H.1 hc
        refine EV_lv (lv' := [(0, vR 38)]) [0] rfl ?_
        exact ct_Sea_goOn_64 H hK
      · have H := H.2 hc
        refine EV_aload_n 0 d_Sea_goOn_54 rfl rfl ?_
        refine EV_callV (as := []) (st := []) d_Sea_goOn_55 k_697 k_699 kp_18 k_7 k_700 shC_38 rfl pd_148 ⟨by decide, by decide, Nat.le_of_ble_eq_true rfl⟩ rfl (ct_Sea_step H (fun te_1 go_2 ch_3 se_4 H => ?_))
        obtain ⟨hr, H⟩ := H
        refine EV_iinc (lv' := [(0, vR 38), (1, vI x1), (2, vI (x2 + 1))]) 2 [1, 2, 0] d_Sea_goOn_58 rfl (by decide) hr rfl ?_
        refine EV_goto (tgt := 41) d_Sea_goOn_61 (by decide) ?_
        exact ih x1 (x2 + 1) te_1 go_2 ch_3 se_4 wr H
theorem ct_Sea_goOn_39 {l : Launch} {o0 o1 nm pr o4 o5 : Ob} {K : Int → Ob → Ob → Ob → Ob → Ob → Prop} {K' : Option AV → List AC → Prop} {x1 : Int} {te go ch se wr : Ob} (H : Sea_goOn_39 x1 nm pr te go ch se wr K) (hK : ∀ (r : Int) (te' go' ch' se' wr' : Ob), K r te' go' ch' se' wr' → K' (some (vI r)) (shC o0 o1 nm pr o4 o5 te' go' ch' se' wr')) : EV l prog_7_method_4_code "PrunedSearch$Search" 3 (some .int) 6 39 [(0, vR 38), (1, vI x1)] [] (shC o0 o1 nm pr o4 o5 te go ch se wr) K' := by
  refine EV_iconst d_Sea_goOn_39 ⟨by decide, by decide⟩ ?_
  refine EV_istore_n (lv' := [(0, vR 38), (1, vI x1), (2, vI 0)]) [1, 2, 0] d_Sea_goOn_40 rfl (by decide) rfl ?_
  obtain ⟨n, H⟩ := H
  exact ct_Sea_goOn_41 hK n x1 0 te go ch se wr H
theorem ct_Sea_goOn_29 {l : Launch} {o0 o1 nm pr o4 o5 : Ob} {K : Int → Ob → Ob → Ob → Ob → Ob → Prop} {K' : Option AV → List AC → Prop} {x1 : Int} {s0 : Int} {te go ch se wr : Ob} (H : Sea_goOn_29 x1 s0 nm pr te go ch se wr K) (hK : ∀ (r : Int) (te' go' ch' se' wr' : Ob), K r te' go' ch' se' wr' → K' (some (vI r)) (shC o0 o1 nm pr o4 o5 te' go' ch' se' wr')) : EV l prog_7_method_4_code "PrunedSearch$Search" 3 (some .int) 6 29 [(0, vR 38), (1, vI x1)] [vI s0, vR 38] (shC o0 o1 nm pr o4 o5 te go ch se wr) K' := by
  refine EV_put (j := 8) d_Sea_goOn_29 shC_38 rfl fI9 fO9 fN9 (by decide) k_284 rfl rfl (fun ad => nf_int ad _) (Nat.le_of_ble_eq_true rfl) shC_38_8 ?_
  refine EV_aload_n 0 d_Sea_goOn_32 rfl rfl ?_
  refine EV_get (j := 5) d_Sea_goOn_33 shC_38 rfl fI9 (by decide) k_281 rfl ?_
  refine EV_callV (as := []) (st := []) d_Sea_goOn_36 k_463 k_464 k_465 k_11 k_466 shC_40 rfl pd_59 ⟨by decide, by decide, Nat.le_of_ble_eq_true rfl⟩ rfl (ct_Wri_clear H (fun wr_6 H => ?_))
  exact ct_Sea_goOn_39 H hK
theorem ct_Sea_goOn {l : Launch} {o0 o1 nm pr o4 o5 te go ch se wr : Ob} {x1 : Int} {K : Int → Ob → Ob → Ob → Ob → Ob → Prop} {K' : Option AV → List AC → Prop} (H : wp_Sea_goOn x1 nm pr te go ch se wr K) (hK : ∀ (r : Int) (te' go' ch' se' wr' : Ob), K r te' go' ch' se' wr' → K' (some (vI r)) (shC o0 o1 nm pr o4 o5 te' go' ch' se' wr')) : MT l ⟨"PrunedSearch$Search", "goOn", "(I)I"⟩ prog_7_method_4_code 3 (some .int) 6 [vR 38, vI x1] (shC o0 o1 nm pr o4 o5 te go ch se wr) K' := by
  unfold wp_Sea_goOn at H
  refine MT_of (lv := [(0, vR 38), (1, vI x1)]) rfl rfl (Nat.le_of_ble_eq_true rfl) rfl ?_
  refine EV_aload_n 0 d_Sea_goOn_0 rfl rfl ?_
  refine EV_get (j := 8) d_Sea_goOn_1 shC_38 rfl fI9 (by decide) k_284 rfl ?_
  refine EV_iconst d_Sea_goOn_4 ⟨by decide, by decide⟩ ?_
  refine EV_icmp_ne (tgt := 39) d_Sea_goOn_5 (by decide) (fun hc => ?_) (fun hc => ?_)
  · have H := H.1 hc
    exact ct_Sea_goOn_39 H hK
  · have H := H.2 hc
    refine EV_aload_n 0 d_Sea_goOn_8 rfl rfl ?_
    refine EV_iconst d_Sea_goOn_9 ⟨by decide, by decide⟩ ?_
    refine EV_put (j := 9) d_Sea_goOn_10 shC_38 rfl fI9 fO9 fN9 (by decide) k_285 rfl rfl (fun ad => nf_bool ad (by decide)) (Nat.le_of_ble_eq_true rfl) shC_38_9 ?_
    refine EV_aload_n 0 d_Sea_goOn_13 rfl rfl ?_
    refine EV_aload_n 0 d_Sea_goOn_14 rfl rfl ?_
    refine EV_get (j := 4) d_Sea_goOn_15 shC_38 rfl fI9 (by decide) k_280 rfl ?_
    refine EV_callV (as := []) (st := [vR 38]) d_Sea_goOn_18 k_693 k_694 k_695 k_10 k_696 shC_31 rfl pd_119 ⟨by decide, by decide, Nat.le_of_ble_eq_true rfl⟩ rfl (ct_Cho_count H (fun r_5 H => ?_))
    refine EV_if_ne (tgt := 28) d_Sea_goOn_21 (by decide) (fun hc => ?_) (fun hc => ?_)
    · have H := H.1 hc
      refine EV_iconst d_Sea_goOn_28 ⟨by decide, by decide⟩ ?_
      exact ct_Sea_goOn_29 H hK
    · have H := H.2 hc
      refine EV_iconst d_Sea_goOn_24 ⟨by decide, by decide⟩ ?_
      refine EV_goto (tgt := 29) d_Sea_goOn_25 (by decide) ?_
      exact ct_Sea_goOn_29 H hK
theorem ct_P_run {l : Launch} {o0 o1 nm pr o4 o5 te go ch se wr : Ob} {x1 : Int} {K : Int → Ob → Ob → Ob → Ob → Ob → Prop} {K' : Option AV → List AC → Prop} (H : wp_P_run x1 nm pr te go ch se wr K) (hK : ∀ (r : Int) (te' go' ch' se' wr' : Ob), K r te' go' ch' se' wr' → K' (some (vI r)) (shC o0 o1 nm pr o4 o5 te' go' ch' se' wr')) : MT l ⟨"PrunedSearch", "run", "(I)I"⟩ prog_1_method_5_code 2 (some .int) 7 [vR 0, vI x1] (shC o0 o1 nm pr o4 o5 te go ch se wr) K' := by
  unfold wp_P_run at H
  refine MT_of (lv := [(0, vR 0), (1, vI x1)]) rfl rfl (Nat.le_of_ble_eq_true rfl) rfl ?_
  refine EV_iload_n 1 d_P_run_0 rfl rfl ?_
  refine EV_iconst d_P_run_1 ⟨by decide, by decide⟩ ?_
  refine EV_icmp_lt (tgt := 11) d_P_run_2 (by decide) (fun hc => ?_) (fun hc => ?_)
  · have H := H.1 hc
    refine EV_iconst d_P_run_11 ⟨by decide, by decide⟩ ?_
    exact EV_iret d_P_run_12 rfl (nw_int _) (hK _ _ _ _ _ _ H)
  · have H := H.2 hc
    refine EV_iload_n 1 d_P_run_5 rfl rfl ?_
    refine EV_bipush d_P_run_6 (by decide +kernel) ⟨by decide, by decide⟩ ?_
    refine EV_icmp_le (tgt := 13) d_P_run_8 (by decide) (fun hc => ?_) (fun hc => ?_)
    · have H := H.1 hc
      refine EV_aload_n 0 d_P_run_13 rfl rfl ?_
      refine EV_get (j := 4) d_P_run_14 shC_0 rfl fI0 (by decide) k_323 rfl ?_
      refine EV_iload_n 1 d_P_run_17 rfl rfl ?_
      refine EV_callV (as := [vI x1]) (st := []) d_P_run_18 k_689 k_690 k_691 k_7 k_692 shC_38 rfl pd_149 ⟨by decide, by decide, Nat.le_of_ble_eq_true rfl⟩ rfl (ct_Sea_goOn H (fun r_6 te_1 go_2 ch_3 se_4 wr_5 H => ?_))
      exact EV_iret d_P_run_21 rfl (nw_int _) (hK _ _ _ _ _ _ H)
    · have H := H.2 hc
      refine EV_iconst d_P_run_11 ⟨by decide, by decide⟩ ?_
      exact EV_iret d_P_run_12 rfl (nw_int _) (hK _ _ _ _ _ _ H)
theorem ct_Wri_isDone {l : Launch} {o0 o1 o2 o3 o4 o5 o6 o7 o8 o9 wr : Ob} {K : Int → Prop} {K' : Option AV → List AC → Prop} (H : wp_Wri_isDone wr K) (hK : ∀ (r : Int), K r → K' (some (vI r)) (shC o0 o1 o2 o3 o4 o5 o6 o7 o8 o9 wr)) : MT l ⟨"PrunedSearch$TermWriter", "isDone", "()Z"⟩ prog_8_method_3_code 1 (some .boolean) 0 [vR 40] (shC o0 o1 o2 o3 o4 o5 o6 o7 o8 o9 wr) K' := by
  unfold wp_Wri_isDone at H
  refine MT_of (lv := [(0, vR 40)]) rfl rfl (Nat.le_of_ble_eq_true rfl) rfl ?_
  refine EV_aload_n 0 d_Wri_isDone_0 rfl rfl ?_
  refine EV_get (j := 9) d_Wri_isDone_1 shC_40 rfl fI10 (by decide) k_254 rfl ?_
  obtain ⟨hb, H⟩ := H
  exact EV_iret d_Wri_isDone_4 rfl (nw_bool hb) (hK _ H)
theorem ct_Wri_push {l : Launch} {o0 o1 o2 o3 o4 o5 o6 o7 o8 o9 wr : Ob} {x1 : Int} {x2 : Int} {K : Ob → Prop} {K' : Option AV → List AC → Prop} (H : wp_Wri_push x1 x2 wr K) (hK : ∀ (wr' : Ob), K wr' → K' none (shC o0 o1 o2 o3 o4 o5 o6 o7 o8 o9 wr')) : MT l ⟨"PrunedSearch$TermWriter", "push", "(II)V"⟩ prog_8_method_14_code 3 none 0 [vR 40, vI x1, vI x2] (shC o0 o1 o2 o3 o4 o5 o6 o7 o8 o9 wr) K' := by
  unfold wp_Wri_push at H
  refine MT_of (lv := [(0, vR 40), (1, vI x1), (2, vI x2)]) rfl rfl (Nat.le_of_ble_eq_true rfl) rfl ?_
  refine EV_aload_n 0 d_Wri_push_0 rfl rfl ?_
  refine EV_get (j := 8) d_Wri_push_1 shC_40 rfl fI10 (by decide) k_253 rfl ?_
  refine EV_sipush d_Wri_push_4 (by decide +kernel) ⟨by decide, by decide⟩ ?_
  refine EV_icmp_ge (tgt := 34) d_Wri_push_7 (by decide) (fun hc => ?_) (fun hc => ?_)
  · have H := H.1 hc
    exact EV_vret d_Wri_push_34 rfl (hK _ H)
  · have H := H.2 hc
    refine EV_aload_n 0 d_Wri_push_10 rfl rfl ?_
    refine EV_get (j := 5) d_Wri_push_11 shC_40 rfl fI10 (by decide) k_250 rfl ?_
    refine EV_aload_n 0 d_Wri_push_14 rfl rfl ?_
    refine EV_get (j := 8) d_Wri_push_15 shC_40 rfl fI10 (by decide) k_253 rfl ?_
    refine EV_iload_n 2 d_Wri_push_18 rfl rfl ?_
    refine EV_iconst d_Wri_push_19 ⟨by decide, by decide⟩ ?_
    obtain ⟨hr, H⟩ := H
    refine EV_imul d_Wri_push_20 hr ?_
    refine EV_iload_n 1 d_Wri_push_21 rfl rfl ?_
    obtain ⟨hr, H⟩ := H
    refine EV_iadd d_Wri_push_22 hr ?_
    obtain ⟨hi, H⟩ := H
    refine EV_iast d_Wri_push_23 shC_44 hi shC_44_s ?_
    refine EV_aload_n 0 d_Wri_push_24 rfl rfl ?_
    refine EV_dup d_Wri_push_25 rfl ?_
    refine EV_get (j := 8) d_Wri_push_26 shC_40 rfl fI10 (by decide) k_253 rfl ?_
    refine EV_iconst d_Wri_push_29 ⟨by decide, by decide⟩ ?_
    obtain ⟨hr, H⟩ := H
    refine EV_iadd d_Wri_push_30 hr ?_
    refine EV_put (j := 8) d_Wri_push_31 shC_40 rfl fI10 fO10 fN10 (by decide) k_253 rfl rfl (fun ad => nf_int ad _) (Nat.le_of_ble_eq_true rfl) shC_40_8 ?_
    exact EV_vret d_Wri_push_34 rfl (hK _ H)
theorem ct_Wri_put {l : Launch} {o0 o1 o2 o3 o4 o5 o6 o7 o8 o9 wr : Ob} {x1 : Int} {K : Ob → Prop} {K' : Option AV → List AC → Prop} (H : wp_Wri_put x1 wr K) (hK : ∀ (wr' : Ob), K wr' → K' none (shC o0 o1 o2 o3 o4 o5 o6 o7 o8 o9 wr')) : MT l ⟨"PrunedSearch$TermWriter", "put", "(C)V"⟩ prog_8_method_13_code 2 none 0 [vR 40, vI x1] (shC o0 o1 o2 o3 o4 o5 o6 o7 o8 o9 wr) K' := by
  unfold wp_Wri_put at H
  refine MT_of (lv := [(0, vR 40), (1, vI x1)]) rfl rfl (Nat.le_of_ble_eq_true rfl) rfl ?_
  refine EV_aload_n 0 d_Wri_put_0 rfl rfl ?_
  refine EV_get (j := 6) d_Wri_put_1 shC_40 rfl fI10 (by decide) k_251 rfl ?_
  refine EV_sipush d_Wri_put_4 (by decide +kernel) ⟨by decide, by decide⟩ ?_
  refine EV_icmp_ge (tgt := 30) d_Wri_put_7 (by decide) (fun hc => ?_) (fun hc => ?_)
  · have H := H.1 hc
    exact EV_vret d_Wri_put_30 rfl (hK _ H)
  · have H := H.2 hc
    refine EV_aload_n 0 d_Wri_put_10 rfl rfl ?_
    refine EV_get (j := 2) d_Wri_put_11 shC_40 rfl fI10 (by decide) k_247 rfl ?_
    refine EV_aload_n 0 d_Wri_put_14 rfl rfl ?_
    refine EV_get (j := 6) d_Wri_put_15 shC_40 rfl fI10 (by decide) k_251 rfl ?_
    refine EV_iload_n 1 d_Wri_put_18 rfl rfl ?_
    obtain ⟨hi, H⟩ := H
    obtain ⟨hch, H⟩ := H
    refine EV_cast d_Wri_put_19 shC_41 hi hch shC_41_s ?_
    refine EV_aload_n 0 d_Wri_put_20 rfl rfl ?_
    refine EV_dup d_Wri_put_21 rfl ?_
    refine EV_get (j := 6) d_Wri_put_22 shC_40 rfl fI10 (by decide) k_251 rfl ?_
    refine EV_iconst d_Wri_put_25 ⟨by decide, by decide⟩ ?_
    obtain ⟨hr, H⟩ := H
    refine EV_iadd d_Wri_put_26 hr ?_
    refine EV_put (j := 6) d_Wri_put_27 shC_40 rfl fI10 fO10 fN10 (by decide) k_251 rfl rfl (fun ad => nf_int ad _) (Nat.le_of_ble_eq_true rfl) shC_40_6 ?_
    exact EV_vret d_Wri_put_30 rfl (hK _ H)
theorem ct_Wri_writeVariable_87 {l : Launch} {o0 o1 o2 o3 o4 o5 o6 o7 o8 o9 : Ob} {K : Ob → Prop} {K' : Option AV → List AC → Prop} {x2 : Int} {wr : Ob} (H : Wri_writeVariable_87 x2 wr K) (hK : ∀ (wr' : Ob), K wr' → K' none (shC o0 o1 o2 o3 o4 o5 o6 o7 o8 o9 wr')) : EV l prog_8_method_12_code "PrunedSearch$TermWriter" 3 none 1 87 [(0, vR 40), (2, vI x2)] [] (shC o0 o1 o2 o3 o4 o5 o6 o7 o8 o9 wr) K' := by
  refine EV_aload_n 0 d_Wri_writeVariable_87 rfl rfl ?_
  refine EV_bipush d_Wri_writeVariable_88 (by decide +kernel) ⟨by decide, by decide⟩ ?_
  refine EV_iload_n 1 d_Wri_writeVariable_90 rfl rfl ?_
  refine EV_bipush d_Wri_writeVariable_91 (by decide +kernel) ⟨by decide, by decide⟩ ?_
  obtain ⟨h0, H⟩ := H
  refine EV_irem d_Wri_writeVariable_93 h0 (by decide) ?_
  obtain ⟨hr, H⟩ := H
  refine EV_iadd d_Wri_writeVariable_94 hr ?_
  obtain ⟨h0, H⟩ := H
  refine EV_i2c d_Wri_writeVariable_95 h0 ?_
  refine EV_callV (as := [vI (48 + (x2 % 10))]) (st := []) d_Wri_writeVariable_96 k_871 k_873 kp_35 k_11 k_874 shC_40 rfl pd_150 ⟨by decide, by decide, Nat.le_of_ble_eq_true rfl⟩ rfl (ct_Wri_put H (fun wr_2 H => ?_))
  exact EV_vret d_Wri_writeVariable_99 rfl (hK _ H)
theorem ct_Wri_writeVariable_63 {l : Launch} {o0 o1 o2 o3 o4 o5 o6 o7 o8 o9 : Ob} {K : Ob → Prop} {K' : Option AV → List AC → Prop} {x2 : Int} {wr : Ob} (H : Wri_writeVariable_63 x2 wr K) (hK : ∀ (wr' : Ob), K wr' → K' none (shC o0 o1 o2 o3 o4 o5 o6 o7 o8 o9 wr')) : EV l prog_8_method_12_code "PrunedSearch$TermWriter" 3 none 1 63 [(0, vR 40), (2, vI x2)] [] (shC o0 o1 o2 o3 o4 o5 o6 o7 o8 o9 wr) K' := by
  refine EV_aload_n 0 d_Wri_writeVariable_63 rfl rfl ?_
  refine EV_bipush d_Wri_writeVariable_64 (by decide +kernel) ⟨by decide, by decide⟩ ?_
  refine EV_callV (as := [vI 95]) (st := []) d_Wri_writeVariable_66 k_871 k_873 kp_35 k_11 k_874 shC_40 rfl pd_150 ⟨by decide, by decide, Nat.le_of_ble_eq_true rfl⟩ rfl (ct_Wri_put H (fun wr_1 H => ?_))
  refine EV_iload_n 1 d_Wri_writeVariable_69 rfl rfl ?_
  refine EV_bipush d_Wri_writeVariable_70 (by decide +kernel) ⟨by decide, by decide⟩ ?_
  refine EV_icmp_lt (tgt := 87) d_Wri_writeVariable_72 (by decide) (fun hc => ?_) (fun hc => ?_)
  · have H := H.1 hc
    exact ct_Wri_writeVariable_87 H hK
  · have H := H.2 hc
    refine EV_aload_n 0 d_Wri_writeVariable_75 rfl rfl ?_
    refine EV_bipush d_Wri_writeVariable_76 (by decide +kernel) ⟨by decide, by decide⟩ ?_
    refine EV_iload_n 1 d_Wri_writeVariable_78 rfl rfl ?_
    refine EV_bipush d_Wri_writeVariable_79 (by decide +kernel) ⟨by decide, by decide⟩ ?_
    obtain ⟨h0, H⟩ := H
    refine EV_idiv d_Wri_writeVariable_81 h0 (by decide) ?_
    obtain ⟨hr, H⟩ := H
    refine EV_iadd d_Wri_writeVariable_82 hr ?_
    obtain ⟨h0, H⟩ := H
    refine EV_i2c d_Wri_writeVariable_83 h0 ?_
    refine EV_callV (as := [vI (48 + (x2 / 10))]) (st := []) d_Wri_writeVariable_84 k_871 k_873 kp_35 k_11 k_874 shC_40 rfl pd_150 ⟨by decide, by decide, Nat.le_of_ble_eq_true rfl⟩ rfl (ct_Wri_put H (fun wr_3 H => ?_))
    exact ct_Wri_writeVariable_87 H hK
theorem ct_Wri_writeVariable_26 {l : Launch} {o0 o1 o2 o3 o4 o5 o6 o7 o8 o9 : Ob} {K : Ob → Prop} {K' : Option AV → List AC → Prop} {x1 : Int} {x2 : Int} {wr : Ob} (H : Wri_writeVariable_26 x1 x2 wr K) (hK : ∀ (wr' : Ob), K wr' → K' none (shC o0 o1 o2 o3 o4 o5 o6 o7 o8 o9 wr')) : EV l prog_8_method_12_code "PrunedSearch$TermWriter" 3 none 1 26 [(0, vR 40), (1, vI x1), (2, vI x2)] [] (shC o0 o1 o2 o3 o4 o5 o6 o7 o8 o9 wr) K' := by
  refine EV_iload_n 2 d_Wri_writeVariable_26 rfl rfl ?_
  refine EV_aload_n 0 d_Wri_writeVariable_27 rfl rfl ?_
  refine EV_get (j := 7) d_Wri_writeVariable_28 shC_40 rfl fI10 (by decide) k_252 rfl ?_
  refine EV_icmp_ne (tgt := 63) d_Wri_writeVariable_31 (by decide) (fun hc => ?_) (fun hc => ?_)
  · have H := H.1 hc
    refine EV_lv (lv' := [(0, vR 40), (2, vI x2)]) [0, 2] rfl ?_
    exact ct_Wri_writeVariable_63 H hK
  · have H := H.2 hc
    refine EV_aload_n 0 d_Wri_writeVariable_34 rfl rfl ?_
    refine EV_get (j := 7) d_Wri_writeVariable_35 shC_40 rfl fI10 (by decide) k_252 rfl ?_
    refine EV_bipush d_Wri_writeVariable_38 (by decide +kernel) ⟨by decide, by decide⟩ ?_
    refine EV_icmp_ge (tgt := 63) d_Wri_writeVariable_40 (by decide) (fun hc => ?_) (fun hc => ?_)
    · have H := H.1 hc
      refine EV_lv (lv' := [(0, vR 40), (2, vI x2)]) [0, 2] rfl ?_
      exact ct_Wri_writeVariable_63 H hK
    · have H := H.2 hc
      refine EV_aload_n 0 d_Wri_writeVariable_43 rfl rfl ?_
      refine EV_get (j := 4) d_Wri_writeVariable_44 shC_40 rfl fI10 (by decide) k_249 rfl ?_
      refine EV_aload_n 0 d_Wri_writeVariable_47 rfl rfl ?_
      refine EV_get (j := 7) d_Wri_writeVariable_48 shC_40 rfl fI10 (by decide) k_252 rfl ?_
      refine EV_iload_n 1 d_Wri_writeVariable_51 rfl rfl ?_
      obtain ⟨hi, H⟩ := H
      refine EV_iast d_Wri_writeVariable_52 shC_43 hi shC_43_s ?_
      refine EV_aload_n 0 d_Wri_writeVariable_53 rfl rfl ?_
      refine EV_dup d_Wri_writeVariable_54 rfl ?_
      refine EV_get (j := 7) d_Wri_writeVariable_55 shC_40 rfl fI10 (by decide) k_252 rfl ?_
      refine EV_iconst d_Wri_writeVariable_58 ⟨by decide, by decide⟩ ?_
      obtain ⟨hr, H⟩ := H
      refine EV_iadd d_Wri_writeVariable_59 hr ?_
      refine EV_put (j := 7) d_Wri_writeVariable_60 shC_40 rfl fI10 fO10 fN10 (by decide) k_252 rfl rfl (fun ad => nf_int ad _) (Nat.le_of_ble_eq_true rfl) shC_40_7 ?_
      refine EV_lv (lv' := [(0, vR 40), (2, vI x2)]) [0, 2] rfl ?_
      exact ct_Wri_writeVariable_63 H hK
theorem ct_Wri_writeVariable_2 {l : Launch} {o0 o1 o2 o3 o4 o5 o6 o7 o8 o9 : Ob} {K : Ob → Prop} {K' : Option AV → List AC → Prop} (hK : ∀ (wr' : Ob), K wr' → K' none (shC o0 o1 o2 o3 o4 o5 o6 o7 o8 o9 wr')) : ∀ (n : Nat) (x1 : Int) (x2 : Int) (wr : Ob), Wri_writeVariable_2 n x1 x2 wr K → EV l prog_8_method_12_code "PrunedSearch$TermWriter" 3 none 1 2 [(0, vR 40), (1, vI x1), (2, vI x2)] [] (shC o0 o1 o2 o3 o4 o5 o6 o7 o8 o9 wr) K' := by
  intro n
  induction n with
  | zero =>
    intro x1 x2 wr H
    exact H.elim
  | succ n ih =>
    intro x1 x2 wr H
    refine EV_iload_n 2 d_Wri_writeVariable_2 rfl rfl ?_
    refine EV_aload_n 0 d_Wri_writeVariable_3 rfl rfl ?_
    refine EV_get (j := 7) d_Wri_writeVariable_4 shC_40 rfl fI10 (by decide) k_252 rfl ?_
    refine EV_icmp_ge (tgt := 26) d_Wri_writeVariable_7 (by decide) (fun hc => ?_) (fun hc => ?_)
    · have H := H.1 hc
      exact ct_Wri_writeVariable_26 H hK
    · have H := H.2 hc
      refine EV_aload_n 0 d_Wri_writeVariable_10 rfl rfl ?_
      refine EV_get (j := 4) d_Wri_writeVariable_11 shC_40 rfl fI10 (by decide) k_249 rfl ?_
      refine EV_iload_n 2 d_Wri_writeVariable_14 rfl rfl ?_
      obtain ⟨hi, H⟩ := H
      refine EV_iald d_Wri_writeVariable_15 shC_43 hi ?_
      refine EV_iload_n 1 d_Wri_writeVariable_16 rfl rfl ?_
      refine EV_icmp_eq (tgt := 26) d_Wri_writeVariable_17 (by decide) (fun hc => ?_) (fun hc => ?_)
      · have H := H.1 hc
        exact ct_Wri_writeVariable_26 H hK
      · have H := H.2 hc
        obtain ⟨hr, H⟩ := H
        refine EV_iinc (lv' := [(0, vR 40), (1, vI x1), (2, vI (x2 + 1))]) 2 [1, 2, 0] d_Wri_writeVariable_20 rfl (by decide) hr rfl ?_
        refine EV_goto (tgt := 2) d_Wri_writeVariable_23 (by decide) ?_
        exact ih x1 (x2 + 1) wr H
theorem ct_Wri_writeVariable {l : Launch} {o0 o1 o2 o3 o4 o5 o6 o7 o8 o9 wr : Ob} {x1 : Int} {K : Ob → Prop} {K' : Option AV → List AC → Prop} (H : wp_Wri_writeVariable x1 wr K) (hK : ∀ (wr' : Ob), K wr' → K' none (shC o0 o1 o2 o3 o4 o5 o6 o7 o8 o9 wr')) : MT l ⟨"PrunedSearch$TermWriter", "writeVariable", "(I)V"⟩ prog_8_method_12_code 3 none 1 [vR 40, vI x1] (shC o0 o1 o2 o3 o4 o5 o6 o7 o8 o9 wr) K' := by
  unfold wp_Wri_writeVariable at H
  refine MT_of (lv := [(0, vR 40), (1, vI x1)]) rfl rfl (Nat.le_of_ble_eq_true rfl) rfl ?_
  refine EV_iconst d_Wri_writeVariable_0 ⟨by decide, by decide⟩ ?_
  refine EV_istore_n (lv' := [(0, vR 40), (1, vI x1), (2, vI 0)]) [1, 2, 0] d_Wri_writeVariable_1 rfl (by decide) rfl ?_
  obtain ⟨n, H⟩ := H
  exact ct_Wri_writeVariable_2 hK n x1 0 wr H
theorem ct_Ter_argument_7 {l : Launch} {o0 o1 o2 o3 o4 o5 te o7 o8 o9 o10 : Ob} {K : Int → Prop} {K' : Option AV → List AC → Prop} (hK : ∀ (r : Int), K r → K' (some (vI r)) (shC o0 o1 o2 o3 o4 o5 te o7 o8 o9 o10)) : ∀ (n : Nat) (x2 : Int) (x3 : Int) (x4 : Int), Ter_argument_7 n x2 x3 x4 te K → EV l prog_9_method_10_code "PrunedSearch$Terms" 5 (some .int) 1 7 [(0, vR 19), (2, vI x2), (3, vI x3), (4, vI x4)] [] (shC o0 o1 o2 o3 o4 o5 te o7 o8 o9 o10) K' := by
  intro n
  induction n with
  | zero =>
    intro x2 x3 x4 H
    exact H.elim
  | succ n ih =>
    intro x2 x3 x4 H
    refine EV_iload 3 d_Ter_argument_7 rfl ?_
    refine EV_iload_n 1 d_Ter_argument_9 rfl rfl ?_
    refine EV_icmp_ge (tgt := 27) d_Ter_argument_10 (by decide) (fun hc => ?_) (fun hc => ?_)
    · have H := H.1 hc
      refine EV_iload_n 2 d_Ter_argument_27 rfl rfl ?_
      exact EV_iret d_Ter_argument_28 rfl (nw_int _) (hK _ H)
    · have H := H.2 hc
      refine EV_iload_n 2 d_Ter_argument_13 rfl rfl ?_
      refine EV_aload_n 0 d_Ter_argument_14 rfl rfl ?_
      refine EV_iload_n 2 d_Ter_argument_15 rfl rfl ?_
      refine EV_callV (as := [vI x3]) (st := [vI x3]) d_Ter_argument_16 k_818 k_677 k_678 k_8 k_679 shC_19 rfl pd_108 ⟨by decide, by decide, Nat.le_of_ble_eq_true rfl⟩ rfl (ct_Ter_sizeAt H (fun r_1 H => ?_))
      obtain ⟨hr, H⟩ := H
      refine EV_iadd d_Ter_argument_19 hr ?_
      refine EV_istore_n (lv' := [(0, vR 19), (2, vI x2), (3, vI (x3 + r_1)), (4, vI x4)]) [1, 2, 0, 3] d_Ter_argument_20 rfl (by decide) rfl ?_
      obtain ⟨hr, H⟩ := H
      refine EV_iinc (lv' := [(0, vR 19), (2, vI x2), (3, vI (x3 + r_1)), (4, vI (x4 + 1))]) 3 [1, 2, 3, 0] d_Ter_argument_21 rfl (by decide) hr rfl ?_
      refine EV_goto (tgt := 7) d_Ter_argument_24 (by decide) ?_
      exact ih x2 (x3 + r_1) (x4 + 1) H
theorem ct_Ter_argument {l : Launch} {o0 o1 o2 o3 o4 o5 te o7 o8 o9 o10 : Ob} {x1 : Int} {x2 : Int} {K : Int → Prop} {K' : Option AV → List AC → Prop} (H : wp_Ter_argument x1 x2 te K) (hK : ∀ (r : Int), K r → K' (some (vI r)) (shC o0 o1 o2 o3 o4 o5 te o7 o8 o9 o10)) : MT l ⟨"PrunedSearch$Terms", "argument", "(II)I"⟩ prog_9_method_10_code 5 (some .int) 1 [vR 19, vI x1, vI x2] (shC o0 o1 o2 o3 o4 o5 te o7 o8 o9 o10) K' := by
  unfold wp_Ter_argument at H
  refine MT_of (lv := [(0, vR 19), (1, vI x1), (2, vI x2)]) rfl rfl (Nat.le_of_ble_eq_true rfl) rfl ?_
  refine EV_iload_n 1 d_Ter_argument_0 rfl rfl ?_
  refine EV_iconst d_Ter_argument_1 ⟨by decide, by decide⟩ ?_
  obtain ⟨hr, H⟩ := H
  refine EV_iadd d_Ter_argument_2 hr ?_
  refine EV_istore_n (lv' := [(0, vR 19), (1, vI x1), (2, vI x2), (3, vI (x1 + 1))]) [1, 2, 3, 0] d_Ter_argument_3 rfl (by decide) rfl ?_
  refine EV_iconst d_Ter_argument_4 ⟨by decide, by decide⟩ ?_
  refine EV_istore (lv' := [(0, vR 19), (1, vI x1), (2, vI x2), (3, vI (x1 + 1)), (4, vI 0)]) [1, 2, 3, 4, 0] d_Ter_argument_5 (by decide) rfl ?_
  refine EV_lv (lv' := [(0, vR 19), (2, vI x2), (3, vI (x1 + 1)), (4, vI 0)]) [0, 2, 3, 4] rfl ?_
  obtain ⟨n, H⟩ := H
  exact ct_Ter_argument_7 hK n x2 (x1 + 1) 0 H
theorem ct_Wri_pushList {l : Launch} {o0 o1 o2 o3 o4 o5 te o7 o8 o9 wr : Ob} {x1 : Int} {K : Ob → Prop} {K' : Option AV → List AC → Prop} (H : wp_Wri_pushList x1 te wr K) (hK : ∀ (wr' : Ob), K wr' → K' none (shC o0 o1 o2 o3 o4 o5 te o7 o8 o9 wr')) : MT l ⟨"PrunedSearch$TermWriter", "pushList", "(I)V"⟩ prog_8_method_9_code 2 none 2 [vR 40, vI x1] (shC o0 o1 o2 o3 o4 o5 te o7 o8 o9 wr) K' := by
  unfold wp_Wri_pushList at H
  refine MT_of (lv := [(0, vR 40), (1, vI x1)]) rfl rfl (Nat.le_of_ble_eq_true rfl) rfl ?_
  refine EV_aload_n 0 d_Wri_pushList_0 rfl rfl ?_
  refine EV_iconst d_Wri_pushList_1 ⟨by decide, by decide⟩ ?_
  refine EV_aload_n 0 d_Wri_pushList_2 rfl rfl ?_
  refine EV_get (j := 0) d_Wri_pushList_3 shC_40 rfl fI10 (by decide) k_245 rfl ?_
  refine EV_iload_n 1 d_Wri_pushList_6 rfl rfl ?_
  refine EV_iconst d_Wri_pushList_7 ⟨by decide, by decide⟩ ?_
  refine EV_callV (as := [vI x1, vI 1]) (st := [vI 1, vR 40]) d_Wri_pushList_8 k_889 k_890 k_891 k_8 k_892 shC_19 rfl pd_152 ⟨by decide, by decide, Nat.le_of_ble_eq_true rfl⟩ rfl (ct_Ter_argument H (fun r_1 H => ?_))
  refine EV_callV (as := [vI 1, vI r_1]) (st := []) d_Wri_pushList_11 k_866 k_868 kp_34 k_11 k_869 shC_40 rfl pd_151 ⟨by decide, by decide, Nat.le_of_ble_eq_true rfl⟩ rfl (ct_Wri_push H (fun wr_2 H => ?_))
  refine EV_aload_n 0 d_Wri_pushList_14 rfl rfl ?_
  refine EV_iconst d_Wri_pushList_15 ⟨by decide, by decide⟩ ?_
  refine EV_aload_n 0 d_Wri_pushList_16 rfl rfl ?_
  refine EV_get (j := 0) d_Wri_pushList_17 shC_40 rfl fI10 (by decide) k_245 rfl ?_
  refine EV_iload_n 1 d_Wri_pushList_20 rfl rfl ?_
  refine EV_iconst d_Wri_pushList_21 ⟨by decide, by decide⟩ ?_
  refine EV_callV (as := [vI x1, vI 0]) (st := [vI 0, vR 40]) d_Wri_pushList_22 k_889 k_890 k_891 k_8 k_892 shC_19 rfl pd_152 ⟨by decide, by decide, Nat.le_of_ble_eq_true rfl⟩ rfl (ct_Ter_argument H (fun r_3 H => ?_))
  refine EV_callV (as := [vI 0, vI r_3]) (st := []) d_Wri_pushList_25 k_866 k_868 kp_34 k_11 k_869 shC_40 rfl pd_151 ⟨by decide, by decide, Nat.le_of_ble_eq_true rfl⟩ rfl (ct_Wri_push H (fun wr_4 H => ?_))
  exact EV_vret d_Wri_pushList_28 rfl (hK _ H)
theorem ct_Wri_writeWord_33 {l : Launch} {o0 o1 o2 o3 o4 o5 o6 o7 o8 o9 : Ob} {K : Ob → Prop} {K' : Option AV → List AC → Prop} {L2 : Nat → Int → Ob → Prop} {y1 : Nat} {x3 : Int} {wr : Ob} (hL2 : ∀ (y1 : Nat) (x3 : Int) (wr : Ob), L2 y1 x3 wr → EV l prog_8_method_11_code "PrunedSearch$TermWriter" 5 none 1 2 [(0, vR 40), (1, vL y1), (3, vI x3)] [] (shC o0 o1 o2 o3 o4 o5 o6 o7 o8 o9 wr) K') (H : Wri_writeWord_33 L2 y1 x3 wr K) (hK : ∀ (wr' : Ob), K wr' → K' none (shC o0 o1 o2 o3 o4 o5 o6 o7 o8 o9 wr')) : EV l prog_8_method_11_code "PrunedSearch$TermWriter" 5 none 1 33 [(0, vR 40), (1, vL y1), (3, vI x3)] [] (shC o0 o1 o2 o3 o4 o5 o6 o7 o8 o9 wr) K' := by
  obtain ⟨hr, H⟩ := H
  refine EV_iinc (lv' := [(0, vR 40), (1, vL y1), (3, vI (x3 + 1))]) 2 [1, 2, 0] d_Wri_writeWord_33 rfl (by decide) hr rfl ?_
  refine EV_goto (tgt := 2) d_Wri_writeWord_36 (by decide) ?_
  exact hL2 y1 (x3 + 1) wr H
theorem ct_Wri_writeWord_2 {l : Launch} {o0 o1 o2 o3 o4 o5 o6 o7 o8 o9 : Ob} {K : Ob → Prop} {K' : Option AV → List AC → Prop} (hK : ∀ (wr' : Ob), K wr' → K' none (shC o0 o1 o2 o3 o4 o5 o6 o7 o8 o9 wr')) : ∀ (n : Nat) (y1 : Nat) (x3 : Int) (wr : Ob), Wri_writeWord_2 n y1 x3 wr K → EV l prog_8_method_11_code "PrunedSearch$TermWriter" 5 none 1 2 [(0, vR 40), (1, vL y1), (3, vI x3)] [] (shC o0 o1 o2 o3 o4 o5 o6 o7 o8 o9 wr) K' := by
  intro n
  induction n with
  | zero =>
    intro y1 x3 wr H
    exact H.elim
  | succ n ih =>
    intro y1 x3 wr H
    refine EV_iload_n 2 d_Wri_writeWord_2 rfl rfl ?_
    refine EV_bipush d_Wri_writeWord_3 (by decide +kernel) ⟨by decide, by decide⟩ ?_
    refine EV_icmp_ge (tgt := 39) d_Wri_writeWord_5 (by decide) (fun hc => ?_) (fun hc => ?_)
    · have H := H.1 hc
      exact EV_vret d_Wri_writeWord_39 rfl (hK _ H)
    · have H := H.2 hc
      refine EV_lload_n 1 d_Wri_writeWord_8 rfl rfl ?_
      refine EV_bipush d_Wri_writeWord_9 (by decide +kernel) ⟨by decide, by decide⟩ ?_
      refine EV_iload_n 2 d_Wri_writeWord_11 rfl rfl ?_
      obtain ⟨hr, H⟩ := H
      refine EV_imul d_Wri_writeWord_12 hr ?_
      obtain ⟨h1, H⟩ := H
      refine EV_lushr d_Wri_writeWord_13 h1 ?_
      refine EV_ldc2 (n := 255) d_Wri_writeWord_14 k_898 (by decide +kernel) (by decide) ?_
      refine EV_land d_Wri_writeWord_17 ?_
      obtain ⟨h0, H⟩ := H
      refine EV_l2i d_Wri_writeWord_18 h0 ?_
      obtain ⟨h0, H⟩ := H
      refine EV_i2c d_Wri_writeWord_19 h0 ?_
      refine EV_istore (lv' := [(0, vR 40), (1, vL y1), (3, vI x3), (4, vI (((y1 / 2 ^ (8 * x3).toNat) &&& 255 : Nat) : Int))]) [1, 2, 3, 0] d_Wri_writeWord_20 (by decide) rfl ?_
      refine EV_iload 3 d_Wri_writeWord_22 rfl ?_
      refine EV_if_eq (tgt := 33) d_Wri_writeWord_24 (by decide) (fun hc => ?_) (fun hc => ?_)
      · have H := H.1 hc
        refine EV_lv (lv' := [(0, vR 40), (1, vL y1), (3, vI x3)]) [0, 1, 2] rfl ?_
        exact ct_Wri_writeWord_33 (fun y1 x3 wr' H => ih y1 x3 wr' H) H hK
      · have H := H.2 hc
        refine EV_aload_n 0 d_Wri_writeWord_27 rfl rfl ?_
        refine EV_iload 3 d_Wri_writeWord_28 rfl ?_
        refine EV_callV (as := [vI (((y1 / 2 ^ (8 * x3).toNat) &&& 255 : Nat) : Int)]) (st := []) d_Wri_writeWord_30 k_871 k_873 kp_35 k_11 k_874 shC_40 rfl pd_150 ⟨by decide, by decide, Nat.le_of_ble_eq_true rfl⟩ rfl (ct_Wri_put H (fun wr_1 H => ?_))
        refine EV_lv (lv' := [(0, vR 40), (1, vL y1), (3, vI x3)]) [0, 1, 2] rfl ?_
        exact ct_Wri_writeWord_33 (fun y1 x3 wr' H => ih y1 x3 wr' H) H hK
theorem ct_Wri_writeWord {l : Launch} {o0 o1 o2 o3 o4 o5 o6 o7 o8 o9 wr : Ob} {y1 : Nat} {K : Ob → Prop} {K' : Option AV → List AC → Prop} (H : wp_Wri_writeWord y1 wr K) (hK : ∀ (wr' : Ob), K wr' → K' none (shC o0 o1 o2 o3 o4 o5 o6 o7 o8 o9 wr')) : MT l ⟨"PrunedSearch$TermWriter", "writeWord", "(J)V"⟩ prog_8_method_11_code 5 none 1 [vR 40, vL y1] (shC o0 o1 o2 o3 o4 o5 o6 o7 o8 o9 wr) K' := by
  unfold wp_Wri_writeWord at H
  refine MT_of (lv := [(0, vR 40), (1, vL y1)]) rfl rfl (Nat.le_of_ble_eq_true rfl) rfl ?_
  refine EV_iconst d_Wri_writeWord_0 ⟨by decide, by decide⟩ ?_
  refine EV_istore_n (lv' := [(0, vR 40), (1, vL y1), (3, vI 0)]) [1, 2, 0] d_Wri_writeWord_1 rfl (by decide) rfl ?_
  obtain ⟨n, H⟩ := H
  exact ct_Wri_writeWord_2 hK n y1 0 wr H
theorem ct_Wri_pushArguments_46 {l : Launch} {o0 o1 o2 o3 o4 o5 te o7 o8 o9 : Ob} {K : Ob → Prop} {K' : Option AV → List AC → Prop} {L15 : Int → Int → Ob → Prop} {x1 : Int} {x3 : Int} {s0 : Int} {s1 : Int} {wr : Ob} (hL15 : ∀ (x1 : Int) (x3 : Int) (wr : Ob), L15 x1 x3 wr → EV l prog_8_method_10_code "PrunedSearch$TermWriter" 4 none 2 15 [(0, vR 40), (1, vI x1), (3, vI x3)] [] (shC o0 o1 o2 o3 o4 o5 te o7 o8 o9 wr) K') (H : Wri_pushArguments_46 L15 x1 x3 s0 s1 te wr K) (hK : ∀ (wr' : Ob), K wr' → K' none (shC o0 o1 o2 o3 o4 o5 te o7 o8 o9 wr')) : EV l prog_8_method_10_code "PrunedSearch$TermWriter" 4 none 2 46 [(0, vR 40), (1, vI x1), (3, vI x3)] [vI s0, vI s1, vR 40] (shC o0 o1 o2 o3 o4 o5 te o7 o8 o9 wr) K' := by
  refine EV_callV (as := [vI s1, vI s0]) (st := []) d_Wri_pushArguments_46 k_866 k_868 kp_34 k_11 k_869 shC_40 rfl pd_151 ⟨by decide, by decide, Nat.le_of_ble_eq_true rfl⟩ rfl (ct_Wri_push H (fun wr_3 H => ?_))
  obtain ⟨hr, H⟩ := H
  refine EV_iinc (lv' := [(0, vR 40), (1, vI x1), (3, vI (x3 + (-1)))]) 2 [1, 2, 0] d_Wri_pushArguments_49 rfl (by decide) hr rfl ?_
  refine EV_goto (tgt := 15) d_Wri_pushArguments_52 (by decide) ?_
  exact hL15 x1 (x3 + (-1)) wr_3 H
theorem ct_Wri_pushArguments_15 {l : Launch} {o0 o1 o2 o3 o4 o5 te o7 o8 o9 : Ob} {K : Ob → Prop} {K' : Option AV → List AC → Prop} (hK : ∀ (wr' : Ob), K wr' → K' none (shC o0 o1 o2 o3 o4 o5 te o7 o8 o9 wr')) : ∀ (n : Nat) (x1 : Int) (x3 : Int) (wr : Ob), Wri_pushArguments_15 n x1 x3 te wr K → EV l prog_8_method_10_code "PrunedSearch$TermWriter" 4 none 2 15 [(0, vR 40), (1, vI x1), (3, vI x3)] [] (shC o0 o1 o2 o3 o4 o5 te o7 o8 o9 wr) K' := by
  intro n
  induction n with
  | zero =>
    intro x1 x3 wr H
    exact H.elim
  | succ n ih =>
    intro x1 x3 wr H
    refine EV_iload_n 2 d_Wri_pushArguments_15 rfl rfl ?_
    refine EV_if_lt (tgt := 55) d_Wri_pushArguments_16 (by decide) (fun hc => ?_) (fun hc => ?_)
    · have H := H.1 hc
      exact EV_vret d_Wri_pushArguments_55 rfl (hK _ H)
    · have H := H.2 hc
      refine EV_aload_n 0 d_Wri_pushArguments_19 rfl rfl ?_
      refine EV_iconst d_Wri_pushArguments_20 ⟨by decide, by decide⟩ ?_
      refine EV_aload_n 0 d_Wri_pushArguments_21 rfl rfl ?_
      refine EV_get (j := 0) d_Wri_pushArguments_22 shC_40 rfl fI10 (by decide) k_245 rfl ?_
      refine EV_iload_n 1 d_Wri_pushArguments_25 rfl rfl ?_
      refine EV_iload_n 2 d_Wri_pushArguments_26 rfl rfl ?_
      refine EV_callV (as := [vI x1, vI x3]) (st := [vI 0, vR 40]) d_Wri_pushArguments_27 k_889 k_890 k_891 k_8 k_892 shC_19 rfl pd_152 ⟨by decide, by decide, Nat.le_of_ble_eq_true rfl⟩ rfl (ct_Ter_argument H (fun r_1 H => ?_))
      refine EV_callV (as := [vI 0, vI r_1]) (st := []) d_Wri_pushArguments_30 k_866 k_868 kp_34 k_11 k_869 shC_40 rfl pd_151 ⟨by decide, by decide, Nat.le_of_ble_eq_true rfl⟩ rfl (ct_Wri_push H (fun wr_2 H => ?_))
      refine EV_aload_n 0 d_Wri_pushArguments_33 rfl rfl ?_
      refine EV_iconst d_Wri_pushArguments_34 ⟨by decide, by decide⟩ ?_
      refine EV_iload_n 2 d_Wri_pushArguments_35 rfl rfl ?_
      refine EV_if_ne (tgt := 44) d_Wri_pushArguments_36 (by decide) (fun hc => ?_) (fun hc => ?_)
      · have H := H.1 hc
        refine EV_bipush d_Wri_pushArguments_44 (by decide +kernel) ⟨by decide, by decide⟩ ?_
        exact ct_Wri_pushArguments_46 (fun x1 x3 wr' H => ih x1 x3 wr' H) H hK
      · have H := H.2 hc
        refine EV_bipush d_Wri_pushArguments_39 (by decide +kernel) ⟨by decide, by decide⟩ ?_
        refine EV_goto (tgt := 46) d_Wri_pushArguments_41 (by decide) ?_
        exact ct_Wri_pushArguments_46 (fun x1 x3 wr' H => ih x1 x3 wr' H) H hK
theorem ct_Wri_pushArguments_11 {l : Launch} {o0 o1 o2 o3 o4 o5 te o7 o8 o9 : Ob} {K : Ob → Prop} {K' : Option AV → List AC → Prop} {x1 : Int} {x2 : Int} {wr : Ob} (H : Wri_pushArguments_11 x1 x2 te wr K) (hK : ∀ (wr' : Ob), K wr' → K' none (shC o0 o1 o2 o3 o4 o5 te o7 o8 o9 wr')) : EV l prog_8_method_10_code "PrunedSearch$TermWriter" 4 none 2 11 [(0, vR 40), (1, vI x1), (2, vI x2)] [] (shC o0 o1 o2 o3 o4 o5 te o7 o8 o9 wr) K' := by
  refine EV_iload_n 2 d_Wri_pushArguments_11 rfl rfl ?_
  refine EV_iconst d_Wri_pushArguments_12 ⟨by decide, by decide⟩ ?_
  obtain ⟨hr, H⟩ := H
  refine EV_isub d_Wri_pushArguments_13 hr ?_
  refine EV_istore_n (lv' := [(0, vR 40), (1, vI x1), (2, vI x2), (3, vI (x2 - 1))]) [1, 2, 3, 0] d_Wri_pushArguments_14 rfl (by decide) rfl ?_
  refine EV_lv (lv' := [(0, vR 40), (1, vI x1), (3, vI (x2 - 1))]) [0, 1, 3] rfl ?_
  obtain ⟨n, H⟩ := H
  exact ct_Wri_pushArguments_15 hK n x1 (x2 - 1) wr H
theorem ct_Wri_pushArguments {l : Launch} {o0 o1 o2 o3 o4 o5 te o7 o8 o9 wr : Ob} {x1 : Int} {x2 : Int} {K : Ob → Prop} {K' : Option AV → List AC → Prop} (H : wp_Wri_pushArguments x1 x2 te wr K) (hK : ∀ (wr' : Ob), K wr' → K' none (shC o0 o1 o2 o3 o4 o5 te o7 o8 o9 wr')) : MT l ⟨"PrunedSearch$TermWriter", "pushArguments", "(II)V"⟩ prog_8_method_10_code 4 none 2 [vR 40, vI x1, vI x2] (shC o0 o1 o2 o3 o4 o5 te o7 o8 o9 wr) K' := by
  unfold wp_Wri_pushArguments at H
  refine MT_of (lv := [(0, vR 40), (1, vI x1), (2, vI x2)]) rfl rfl (Nat.le_of_ble_eq_true rfl) rfl ?_
  refine EV_iload_n 2 d_Wri_pushArguments_0 rfl rfl ?_
  refine EV_if_le (tgt := 11) d_Wri_pushArguments_1 (by decide) (fun hc => ?_) (fun hc => ?_)
  · have H := H.1 hc
    exact ct_Wri_pushArguments_11 H hK
  · have H := H.2 hc
    refine EV_aload_n 0 d_Wri_pushArguments_4 rfl rfl ?_
    refine EV_iconst d_Wri_pushArguments_5 ⟨by decide, by decide⟩ ?_
    refine EV_bipush d_Wri_pushArguments_6 (by decide +kernel) ⟨by decide, by decide⟩ ?_
    refine EV_callV (as := [vI 2, vI 41]) (st := []) d_Wri_pushArguments_8 k_866 k_868 kp_34 k_11 k_869 shC_40 rfl pd_151 ⟨by decide, by decide, Nat.le_of_ble_eq_true rfl⟩ rfl (ct_Wri_push H (fun wr_4 H => ?_))
    exact ct_Wri_pushArguments_11 H hK
theorem ct_Wri_writeTerm {l : Launch} {o0 o1 nm o3 o4 o5 te o7 o8 o9 wr : Ob} {x1 : Int} {K : Ob → Prop} {K' : Option AV → List AC → Prop} (H : wp_Wri_writeTerm x1 nm te wr K) (hK : ∀ (wr' : Ob), K wr' → K' none (shC o0 o1 nm o3 o4 o5 te o7 o8 o9 wr')) : MT l ⟨"PrunedSearch$TermWriter", "writeTerm", "(I)V"⟩ prog_8_method_7_code 3 none 3 [vR 40, vI x1] (shC o0 o1 nm o3 o4 o5 te o7 o8 o9 wr) K' := by
  unfold wp_Wri_writeTerm at H
  refine MT_of (lv := [(0, vR 40), (1, vI x1)]) rfl rfl (Nat.le_of_ble_eq_true rfl) rfl ?_
  refine EV_aload_n 0 d_Wri_writeTerm_0 rfl rfl ?_
  refine EV_get (j := 0) d_Wri_writeTerm_1 shC_40 rfl fI10 (by decide) k_245 rfl ?_
  refine EV_iload_n 1 d_Wri_writeTerm_4 rfl rfl ?_
  refine EV_callV (as := [vI x1]) (st := []) d_Wri_writeTerm_5 k_880 k_742 k_743 k_8 k_744 shC_19 rfl pd_126 ⟨by decide, by decide, Nat.le_of_ble_eq_true rfl⟩ rfl (ct_Ter_symbolAt H (fun r_1 H => ?_))
  refine EV_istore_n (lv' := [(0, vR 40), (1, vI x1), (2, vI r_1)]) [1, 2, 0] d_Wri_writeTerm_8 rfl (by decide) rfl ?_
  refine EV_iload_n 2 d_Wri_writeTerm_9 rfl rfl ?_
  refine EV_if_ge (tgt := 21) d_Wri_writeTerm_10 (by decide) (fun hc => ?_) (fun hc => ?_)
  · have H := H.1 hc
    refine EV_iload_n 2 d_Wri_writeTerm_21 rfl rfl ?_
    refine EV_if_ne (tgt := 40) d_Wri_writeTerm_22 (by decide) (fun hc => ?_) (fun hc => ?_)
    · have H := H.1 hc
      refine EV_iload_n 2 d_Wri_writeTerm_40 rfl rfl ?_
      refine EV_bipush d_Wri_writeTerm_41 (by decide +kernel) ⟨by decide, by decide⟩ ?_
      refine EV_icmp_ne (tgt := 60) d_Wri_writeTerm_43 (by decide) (fun hc => ?_) (fun hc => ?_)
      · have H := H.1 hc
        refine EV_aload_n 0 d_Wri_writeTerm_60 rfl rfl ?_
        refine EV_aload_n 0 d_Wri_writeTerm_61 rfl rfl ?_
        refine EV_get (j := 1) d_Wri_writeTerm_62 shC_40 rfl fI10 (by decide) k_246 rfl ?_
        refine EV_iload_n 2 d_Wri_writeTerm_65 rfl rfl ?_
        refine EV_callV (as := [vI r_1]) (st := [vR 40]) d_Wri_writeTerm_66 k_893 k_751 k_752 k_3 k_753 shC_7 rfl pd_143 ⟨by decide, by decide, Nat.le_of_ble_eq_true rfl⟩ rfl (ct_Nam_wordOf H (fun r_2 H => ?_))
        refine EV_callV (as := [vL r_2]) (st := []) d_Wri_writeTerm_69 k_894 k_896 kp_39 k_11 k_897 shC_40 rfl pd_154 ⟨by decide, by decide, Nat.le_of_ble_eq_true rfl⟩ rfl (ct_Wri_writeWord H (fun wr_3 H => ?_))
        refine EV_aload_n 0 d_Wri_writeTerm_72 rfl rfl ?_
        refine EV_iload_n 1 d_Wri_writeTerm_73 rfl rfl ?_
        refine EV_iload_n 2 d_Wri_writeTerm_74 rfl rfl ?_
        refine EV_callN (as := [vI r_1]) (st := [vI x1, vR 40]) d_Wri_writeTerm_75 k_899 k_593 k_1 k_594 pd_84 ⟨by decide, by decide, Nat.le_of_ble_eq_true rfl⟩ rfl (ct_P_argumentsOf H (fun r_4 H => ?_))
        refine EV_callV (as := [vI x1, vI r_4]) (st := []) d_Wri_writeTerm_78 k_900 k_902 kp_40 k_11 k_903 shC_40 rfl pd_153 ⟨by decide, by decide, Nat.le_of_ble_eq_true rfl⟩ rfl (ct_Wri_pushArguments H (fun wr_5 H => ?_))
        exact EV_vret d_Wri_writeTerm_81 rfl (hK _ H)
      · have H := H.2 hc
        refine EV_aload_n 0 d_Wri_writeTerm_46 rfl rfl ?_
        refine EV_bipush d_Wri_writeTerm_47 (by decide +kernel) ⟨by decide, by decide⟩ ?_
        refine EV_callV (as := [vI 91]) (st := []) d_Wri_writeTerm_49 k_871 k_873 kp_35 k_11 k_874 shC_40 rfl pd_150 ⟨by decide, by decide, Nat.le_of_ble_eq_true rfl⟩ rfl (ct_Wri_put H (fun wr_6 H => ?_))
        refine EV_aload_n 0 d_Wri_writeTerm_52 rfl rfl ?_
        refine EV_iload_n 1 d_Wri_writeTerm_53 rfl rfl ?_
        refine EV_callV (as := [vI x1]) (st := []) d_Wri_writeTerm_54 k_885 k_887 kp_38 k_11 k_888 shC_40 rfl pd_155 ⟨by decide, by decide, Nat.le_of_ble_eq_true rfl⟩ rfl (ct_Wri_pushList H (fun wr_7 H => ?_))
        refine EV_goto (tgt := 81) d_Wri_writeTerm_57 (by decide) ?_
        exact EV_vret d_Wri_writeTerm_81 rfl (hK _ H)
    · have H := H.2 hc
      refine EV_aload_n 0 d_Wri_writeTerm_25 rfl rfl ?_
      refine EV_bipush d_Wri_writeTerm_26 (by decide +kernel) ⟨by decide, by decide⟩ ?_
      refine EV_callV (as := [vI 91]) (st := []) d_Wri_writeTerm_28 k_871 k_873 kp_35 k_11 k_874 shC_40 rfl pd_150 ⟨by decide, by decide, Nat.le_of_ble_eq_true rfl⟩ rfl (ct_Wri_put H (fun wr_8 H => ?_))
      refine EV_aload_n 0 d_Wri_writeTerm_31 rfl rfl ?_
      refine EV_bipush d_Wri_writeTerm_32 (by decide +kernel) ⟨by decide, by decide⟩ ?_
      refine EV_callV (as := [vI 93]) (st := []) d_Wri_writeTerm_34 k_871 k_873 kp_35 k_11 k_874 shC_40 rfl pd_150 ⟨by decide, by decide, Nat.le_of_ble_eq_true rfl⟩ rfl (ct_Wri_put H (fun wr_9 H => ?_))
      refine EV_goto (tgt := 81) d_Wri_writeTerm_37 (by decide) ?_
      exact EV_vret d_Wri_writeTerm_81 rfl (hK _ H)
  · have H := H.2 hc
    refine EV_aload_n 0 d_Wri_writeTerm_13 rfl rfl ?_
    refine EV_iload_n 1 d_Wri_writeTerm_14 rfl rfl ?_
    refine EV_callV (as := [vI x1]) (st := []) d_Wri_writeTerm_15 k_881 k_883 kp_37 k_11 k_884 shC_40 rfl pd_156 ⟨by decide, by decide, Nat.le_of_ble_eq_true rfl⟩ rfl (ct_Wri_writeVariable H (fun wr_10 H => ?_))
    refine EV_goto (tgt := 81) d_Wri_writeTerm_18 (by decide) ?_
    exact EV_vret d_Wri_writeTerm_81 rfl (hK _ H)
theorem ct_Wri_writeRest {l : Launch} {o0 o1 o2 o3 o4 o5 te o7 o8 o9 wr : Ob} {x1 : Int} {K : Ob → Prop} {K' : Option AV → List AC → Prop} (H : wp_Wri_writeRest x1 te wr K) (hK : ∀ (wr' : Ob), K wr' → K' none (shC o0 o1 o2 o3 o4 o5 te o7 o8 o9 wr')) : MT l ⟨"PrunedSearch$TermWriter", "writeRest", "(I)V"⟩ prog_8_method_8_code 3 none 3 [vR 40, vI x1] (shC o0 o1 o2 o3 o4 o5 te o7 o8 o9 wr) K' := by
  unfold wp_Wri_writeRest at H
  refine MT_of (lv := [(0, vR 40), (1, vI x1)]) rfl rfl (Nat.le_of_ble_eq_true rfl) rfl ?_
  refine EV_aload_n 0 d_Wri_writeRest_0 rfl rfl ?_
  refine EV_get (j := 0) d_Wri_writeRest_1 shC_40 rfl fI10 (by decide) k_245 rfl ?_
  refine EV_iload_n 1 d_Wri_writeRest_4 rfl rfl ?_
  refine EV_callV (as := [vI x1]) (st := []) d_Wri_writeRest_5 k_880 k_742 k_743 k_8 k_744 shC_19 rfl pd_126 ⟨by decide, by decide, Nat.le_of_ble_eq_true rfl⟩ rfl (ct_Ter_symbolAt H (fun r_1 H => ?_))
  refine EV_istore_n (lv' := [(0, vR 40), (1, vI x1), (2, vI r_1)]) [1, 2, 0] d_Wri_writeRest_8 rfl (by decide) rfl ?_
  refine EV_iload_n 2 d_Wri_writeRest_9 rfl rfl ?_
  refine EV_if_ne (tgt := 22) d_Wri_writeRest_10 (by decide) (fun hc => ?_) (fun hc => ?_)
  · have H := H.1 hc
    refine EV_iload_n 2 d_Wri_writeRest_22 rfl rfl ?_
    refine EV_bipush d_Wri_writeRest_23 (by decide +kernel) ⟨by decide, by decide⟩ ?_
    refine EV_icmp_ne (tgt := 42) d_Wri_writeRest_25 (by decide) (fun hc => ?_) (fun hc => ?_)
    · have H := H.1 hc
      refine EV_aload_n 0 d_Wri_writeRest_42 rfl rfl ?_
      refine EV_bipush d_Wri_writeRest_43 (by decide +kernel) ⟨by decide, by decide⟩ ?_
      refine EV_callV (as := [vI 124]) (st := []) d_Wri_writeRest_45 k_871 k_873 kp_35 k_11 k_874 shC_40 rfl pd_150 ⟨by decide, by decide, Nat.le_of_ble_eq_true rfl⟩ rfl (ct_Wri_put H (fun wr_2 H => ?_))
      refine EV_aload_n 0 d_Wri_writeRest_48 rfl rfl ?_
      refine EV_iconst d_Wri_writeRest_49 ⟨by decide, by decide⟩ ?_
      refine EV_bipush d_Wri_writeRest_50 (by decide +kernel) ⟨by decide, by decide⟩ ?_
      refine EV_callV (as := [vI 2, vI 93]) (st := []) d_Wri_writeRest_52 k_866 k_868 kp_34 k_11 k_869 shC_40 rfl pd_151 ⟨by decide, by decide, Nat.le_of_ble_eq_true rfl⟩ rfl (ct_Wri_push H (fun wr_3 H => ?_))
      refine EV_aload_n 0 d_Wri_writeRest_55 rfl rfl ?_
      refine EV_iconst d_Wri_writeRest_56 ⟨by decide, by decide⟩ ?_
      refine EV_iload_n 1 d_Wri_writeRest_57 rfl rfl ?_
      refine EV_callV (as := [vI 0, vI x1]) (st := []) d_Wri_writeRest_58 k_866 k_868 kp_34 k_11 k_869 shC_40 rfl pd_151 ⟨by decide, by decide, Nat.le_of_ble_eq_true rfl⟩ rfl (ct_Wri_push H (fun wr_4 H => ?_))
      exact EV_vret d_Wri_writeRest_61 rfl (hK _ H)
    · have H := H.2 hc
      refine EV_aload_n 0 d_Wri_writeRest_28 rfl rfl ?_
      refine EV_bipush d_Wri_writeRest_29 (by decide +kernel) ⟨by decide, by decide⟩ ?_
      refine EV_callV (as := [vI 44]) (st := []) d_Wri_writeRest_31 k_871 k_873 kp_35 k_11 k_874 shC_40 rfl pd_150 ⟨by decide, by decide, Nat.le_of_ble_eq_true rfl⟩ rfl (ct_Wri_put H (fun wr_5 H => ?_))
      refine EV_aload_n 0 d_Wri_writeRest_34 rfl rfl ?_
      refine EV_iload_n 1 d_Wri_writeRest_35 rfl rfl ?_
      refine EV_callV (as := [vI x1]) (st := []) d_Wri_writeRest_36 k_885 k_887 kp_38 k_11 k_888 shC_40 rfl pd_155 ⟨by decide, by decide, Nat.le_of_ble_eq_true rfl⟩ rfl (ct_Wri_pushList H (fun wr_6 H => ?_))
      refine EV_goto (tgt := 61) d_Wri_writeRest_39 (by decide) ?_
      exact EV_vret d_Wri_writeRest_61 rfl (hK _ H)
  · have H := H.2 hc
    refine EV_aload_n 0 d_Wri_writeRest_13 rfl rfl ?_
    refine EV_bipush d_Wri_writeRest_14 (by decide +kernel) ⟨by decide, by decide⟩ ?_
    refine EV_callV (as := [vI 93]) (st := []) d_Wri_writeRest_16 k_871 k_873 kp_35 k_11 k_874 shC_40 rfl pd_150 ⟨by decide, by decide, Nat.le_of_ble_eq_true rfl⟩ rfl (ct_Wri_put H (fun wr_7 H => ?_))
    refine EV_goto (tgt := 61) d_Wri_writeRest_19 (by decide) ?_
    exact EV_vret d_Wri_writeRest_61 rfl (hK _ H)
theorem ct_Wri_write_103 {l : Launch} {o0 o1 nm o3 o4 o5 te o7 o8 o9 : Ob} {K : Ob → Prop} {K' : Option AV → List AC → Prop} {L13 : Int → Ob → Prop} {x2 : Int} {wr : Ob} (hL13 : ∀ (x2 : Int) (wr : Ob), L13 x2 wr → EV l prog_8_method_6_code "PrunedSearch$TermWriter" 5 none 4 13 [(0, vR 40), (2, vI x2)] [] (shC o0 o1 nm o3 o4 o5 te o7 o8 o9 wr) K') (H : Wri_write_103 L13 x2 nm te wr K) (hK : ∀ (wr' : Ob), K wr' → K' none (shC o0 o1 nm o3 o4 o5 te o7 o8 o9 wr')) : EV l prog_8_method_6_code "PrunedSearch$TermWriter" 5 none 4 103 [(0, vR 40), (2, vI x2)] [] (shC o0 o1 nm o3 o4 o5 te o7 o8 o9 wr) K' := by
  obtain ⟨hr, H⟩ := H
  refine EV_iinc (lv' := [(0, vR 40), (2, vI (x2 + 1))]) 1 [1, 0] d_Wri_write_103 rfl (by decide) hr rfl ?_
  refine EV_goto (tgt := 13) d_Wri_write_106 (by decide) ?_
  exact hL13 (x2 + 1) wr H
theorem ct_Wri_write_13 {l : Launch} {o0 o1 nm o3 o4 o5 te o7 o8 o9 : Ob} {K : Ob → Prop} {K' : Option AV → List AC → Prop} (hK : ∀ (wr' : Ob), K wr' → K' none (shC o0 o1 nm o3 o4 o5 te o7 o8 o9 wr')) : ∀ (n : Nat) (x2 : Int) (wr : Ob), Wri_write_13 n x2 nm te wr K → EV l prog_8_method_6_code "PrunedSearch$TermWriter" 5 none 4 13 [(0, vR 40), (2, vI x2)] [] (shC o0 o1 nm o3 o4 o5 te o7 o8 o9 wr) K' := by
  intro n
  induction n with
  | zero =>
    intro x2 wr H
    exact H.elim
  | succ n ih =>
    intro x2 wr H
    refine EV_iload_n 1 d_Wri_write_13 rfl rfl ?_
    refine EV_ldc (n := 1000000) d_Wri_write_14 k_870 (by decide +kernel) ⟨by decide, by decide⟩ ?_
    refine EV_icmp_ge (tgt := 109) d_Wri_write_16 (by decide) (fun hc => ?_) (fun hc => ?_)
    · have H := H.1 hc
      exact EV_vret d_Wri_write_109 rfl (hK _ H)
    · have H := H.2 hc
      refine EV_aload_n 0 d_Wri_write_19 rfl rfl ?_
      refine EV_get (j := 8) d_Wri_write_20 shC_40 rfl fI10 (by decide) k_253 rfl ?_
      refine EV_if_le (tgt := 109) d_Wri_write_23 (by decide) (fun hc => ?_) (fun hc => ?_)
      · have H := H.1 hc
        exact EV_vret d_Wri_write_109 rfl (hK _ H)
      · have H := H.2 hc
        refine EV_aload_n 0 d_Wri_write_26 rfl rfl ?_
        refine EV_dup d_Wri_write_27 rfl ?_
        refine EV_get (j := 8) d_Wri_write_28 shC_40 rfl fI10 (by decide) k_253 rfl ?_
        refine EV_iconst d_Wri_write_31 ⟨by decide, by decide⟩ ?_
        obtain ⟨hr, H⟩ := H
        refine EV_isub d_Wri_write_32 hr ?_
        refine EV_put (j := 8) d_Wri_write_33 shC_40 rfl fI10 fO10 fN10 (by decide) k_253 rfl rfl (fun ad => nf_int ad _) (Nat.le_of_ble_eq_true rfl) shC_40_8 ?_
        refine EV_aload_n 0 d_Wri_write_36 rfl rfl ?_
        refine EV_get (j := 5) d_Wri_write_37 shC_40 rfl fI10 (by decide) k_250 rfl ?_
        refine EV_aload_n 0 d_Wri_write_40 rfl rfl ?_
        refine EV_get (j := 8) d_Wri_write_41 shC_40 rfl fI10 (by decide) k_253 rfl ?_
        obtain ⟨hi, H⟩ := H
        refine EV_iald d_Wri_write_44 shC_44 hi ?_
        refine EV_istore_n (lv' := [(0, vR 40), (2, vI x2), (3, vI (wr.2.1 3 ((wr.1 2) - 1)))]) [1, 2, 0] d_Wri_write_45 rfl (by decide) rfl ?_
        refine EV_iload_n 2 d_Wri_write_46 rfl rfl ?_
        refine EV_iconst d_Wri_write_47 ⟨by decide, by decide⟩ ?_
        obtain ⟨h0, H⟩ := H
        refine EV_idiv d_Wri_write_48 h0 (by decide) ?_
        refine EV_istore (lv' := [(0, vR 40), (2, vI x2), (3, vI (wr.2.1 3 ((wr.1 2) - 1))), (4, vI ((wr.2.1 3 ((wr.1 2) - 1)) / 4))]) [1, 2, 3, 0] d_Wri_write_49 (by decide) rfl ?_
        refine EV_iload_n 2 d_Wri_write_51 rfl rfl ?_
        refine EV_iconst d_Wri_write_52 ⟨by decide, by decide⟩ ?_
        obtain ⟨h0, H⟩ := H
        refine EV_irem d_Wri_write_53 h0 (by decide) ?_
        refine EV_iconst d_Wri_write_54 ⟨by decide, by decide⟩ ?_
        refine EV_icmp_ne (tgt := 68) d_Wri_write_55 (by decide) (fun hc => ?_) (fun hc => ?_)
        · have H := H.1 hc
          refine EV_iload_n 2 d_Wri_write_68 rfl rfl ?_
          refine EV_iconst d_Wri_write_69 ⟨by decide, by decide⟩ ?_
          obtain ⟨h0, H⟩ := H
          refine EV_irem d_Wri_write_70 h0 (by decide) ?_
          refine EV_if_ne (tgt := 90) d_Wri_write_71 (by decide) (fun hc => ?_) (fun hc => ?_)
          · have H := H.1 hc
            refine EV_aload_n 0 d_Wri_write_90 rfl rfl ?_
            refine EV_aload_n 0 d_Wri_write_91 rfl rfl ?_
            refine EV_get (j := 0) d_Wri_write_92 shC_40 rfl fI10 (by decide) k_245 rfl ?_
            refine EV_iload 3 d_Wri_write_95 rfl ?_
            refine EV_callV (as := [vI ((wr.2.1 3 ((wr.1 2) - 1)) / 4)]) (st := [vR 40]) d_Wri_write_97 k_875 k_761 k_762 k_8 k_763 shC_19 rfl pd_129 ⟨by decide, by decide, Nat.le_of_ble_eq_true rfl⟩ rfl (ct_Ter_standing H (fun r_2 H => ?_))
            refine EV_callV (as := [vI r_2]) (st := []) d_Wri_write_100 k_904 k_906 kp_41 k_11 k_907 shC_40 rfl pd_157 ⟨by decide, by decide, Nat.le_of_ble_eq_true rfl⟩ rfl (ct_Wri_writeRest H (fun wr_3 H => ?_))
            refine EV_lv (lv' := [(0, vR 40), (2, vI x2)]) [0, 1] rfl ?_
            exact ct_Wri_write_103 (fun x2 wr' H => ih x2 wr' H) H hK
          · have H := H.2 hc
            refine EV_aload_n 0 d_Wri_write_74 rfl rfl ?_
            refine EV_aload_n 0 d_Wri_write_75 rfl rfl ?_
            refine EV_get (j := 0) d_Wri_write_76 shC_40 rfl fI10 (by decide) k_245 rfl ?_
            refine EV_iload 3 d_Wri_write_79 rfl ?_
            refine EV_callV (as := [vI ((wr.2.1 3 ((wr.1 2) - 1)) / 4)]) (st := [vR 40]) d_Wri_write_81 k_875 k_761 k_762 k_8 k_763 shC_19 rfl pd_129 ⟨by decide, by decide, Nat.le_of_ble_eq_true rfl⟩ rfl (ct_Ter_standing H (fun r_4 H => ?_))
            refine EV_callV (as := [vI r_4]) (st := []) d_Wri_write_84 k_876 k_878 kp_36 k_11 k_879 shC_40 rfl pd_158 ⟨by decide, by decide, Nat.le_of_ble_eq_true rfl⟩ rfl (ct_Wri_writeTerm H (fun wr_5 H => ?_))
            refine EV_goto (tgt := 103) d_Wri_write_87 (by decide) ?_
            refine EV_lv (lv' := [(0, vR 40), (2, vI x2)]) [0, 1] rfl ?_
            exact ct_Wri_write_103 (fun x2 wr' H => ih x2 wr' H) H hK
        · have H := H.2 hc
          refine EV_aload_n 0 d_Wri_write_58 rfl rfl ?_
          refine EV_iload 3 d_Wri_write_59 rfl ?_
          obtain ⟨h0, H⟩ := H
          refine EV_i2c d_Wri_write_61 h0 ?_
          refine EV_callV (as := [vI ((wr.2.1 3 ((wr.1 2) - 1)) / 4)]) (st := []) d_Wri_write_62 k_871 k_873 kp_35 k_11 k_874 shC_40 rfl pd_150 ⟨by decide, by decide, Nat.le_of_ble_eq_true rfl⟩ rfl (ct_Wri_put H (fun wr_6 H => ?_))
          refine EV_goto (tgt := 103) d_Wri_write_65 (by decide) ?_
          refine EV_lv (lv' := [(0, vR 40), (2, vI x2)]) [0, 1] rfl ?_
          exact ct_Wri_write_103 (fun x2 wr' H => ih x2 wr' H) H hK
theorem ct_Wri_write {l : Launch} {o0 o1 nm o3 o4 o5 te o7 o8 o9 wr : Ob} {x1 : Int} {K : Ob → Prop} {K' : Option AV → List AC → Prop} (H : wp_Wri_write x1 nm te wr K) (hK : ∀ (wr' : Ob), K wr' → K' none (shC o0 o1 nm o3 o4 o5 te o7 o8 o9 wr')) : MT l ⟨"PrunedSearch$TermWriter", "write", "(I)V"⟩ prog_8_method_6_code 5 none 4 [vR 40, vI x1] (shC o0 o1 nm o3 o4 o5 te o7 o8 o9 wr) K' := by
  unfold wp_Wri_write at H
  refine MT_of (lv := [(0, vR 40), (1, vI x1)]) rfl rfl (Nat.le_of_ble_eq_true rfl) rfl ?_
  refine EV_aload_n 0 d_Wri_write_0 rfl rfl ?_
  refine EV_iconst d_Wri_write_1 ⟨by decide, by decide⟩ ?_
  refine EV_put (j := 8) d_Wri_write_2 shC_40 rfl fI10 fO10 fN10 (by decide) k_253 rfl rfl (fun ad => nf_int ad _) (Nat.le_of_ble_eq_true rfl) shC_40_8 ?_
  refine EV_aload_n 0 d_Wri_write_5 rfl rfl ?_
  refine EV_iconst d_Wri_write_6 ⟨by decide, by decide⟩ ?_
  refine EV_iload_n 1 d_Wri_write_7 rfl rfl ?_
  refine EV_callV (as := [vI 0, vI x1]) (st := []) d_Wri_write_8 k_866 k_868 kp_34 k_11 k_869 shC_40 rfl pd_151 ⟨by decide, by decide, Nat.le_of_ble_eq_true rfl⟩ rfl (ct_Wri_push H (fun wr_1 H => ?_))
  refine EV_iconst d_Wri_write_11 ⟨by decide, by decide⟩ ?_
  refine EV_istore_n (lv' := [(0, vR 40), (1, vI x1), (2, vI 0)]) [1, 2, 0] d_Wri_write_12 rfl (by decide) rfl ?_
  refine EV_lv (lv' := [(0, vR 40), (2, vI 0)]) [0, 2] rfl ?_
  obtain ⟨n, H⟩ := H
  exact ct_Wri_write_13 hK n 0 wr_1 H
theorem ct_Wri_writeAll_40 {l : Launch} {o0 o1 nm o3 o4 o5 te o7 o8 se : Ob} {K : Ob → Prop} {K' : Option AV → List AC → Prop} {wr : Ob} (H : Wri_writeAll_40 nm te se wr K) (hK : ∀ (wr' : Ob), K wr' → K' none (shC o0 o1 nm o3 o4 o5 te o7 o8 se wr')) : EV l prog_8_method_5_code "PrunedSearch$TermWriter" 4 none 5 40 [(0, vR 40)] [] (shC o0 o1 nm o3 o4 o5 te o7 o8 se wr) K' := by
  refine EV_aload_n 0 d_Wri_writeAll_40 rfl rfl ?_
  refine EV_iconst d_Wri_writeAll_41 ⟨by decide, by decide⟩ ?_
  refine EV_put (j := 9) d_Wri_writeAll_42 shC_40 rfl fI10 fO10 fN10 (by decide) k_254 rfl rfl (fun ad => nf_bool ad (by decide)) (Nat.le_of_ble_eq_true rfl) shC_40_9 ?_
  exact EV_vret d_Wri_writeAll_45 rfl (hK _ H)
theorem ct_Wri_writeAll_6 {l : Launch} {o0 o1 nm o3 o4 o5 te o7 o8 se : Ob} {K : Ob → Prop} {K' : Option AV → List AC → Prop} (hK : ∀ (wr' : Ob), K wr' → K' none (shC o0 o1 nm o3 o4 o5 te o7 o8 se wr')) : ∀ (n : Nat) (x2 : Int) (x3 : Int) (wr : Ob), Wri_writeAll_6 n x2 x3 nm te se wr K → EV l prog_8_method_5_code "PrunedSearch$TermWriter" 4 none 5 6 [(0, vR 40), (1, vR 39), (2, vI x2), (3, vI x3)] [] (shC o0 o1 nm o3 o4 o5 te o7 o8 se wr) K' := by
  intro n
  induction n with
  | zero =>
    intro x2 x3 wr H
    exact H.elim
  | succ n ih =>
    intro x2 x3 wr H
    refine EV_iload_n 3 d_Wri_writeAll_6 rfl rfl ?_
    refine EV_iload_n 2 d_Wri_writeAll_7 rfl rfl ?_
    refine EV_icmp_ge (tgt := 40) d_Wri_writeAll_8 (by decide) (fun hc => ?_) (fun hc => ?_)
    · have H := H.1 hc
      refine EV_lv (lv' := [(0, vR 40)]) [0] rfl ?_
      exact ct_Wri_writeAll_40 H hK
    · have H := H.2 hc
      refine EV_iload_n 3 d_Wri_writeAll_11 rfl rfl ?_
      refine EV_bipush d_Wri_writeAll_12 (by decide +kernel) ⟨by decide, by decide⟩ ?_
      refine EV_icmp_ge (tgt := 40) d_Wri_writeAll_14 (by decide) (fun hc => ?_) (fun hc => ?_)
      · have H := H.1 hc
        refine EV_lv (lv' := [(0, vR 40)]) [0] rfl ?_
        exact ct_Wri_writeAll_40 H hK
      · have H := H.2 hc
        refine EV_aload_n 0 d_Wri_writeAll_17 rfl rfl ?_
        refine EV_aload_n 1 d_Wri_writeAll_18 rfl rfl ?_
        refine EV_iload_n 3 d_Wri_writeAll_19 rfl rfl ?_
        obtain ⟨hi, H⟩ := H
        refine EV_iald d_Wri_writeAll_20 shC_39 hi ?_
        refine EV_callV (as := [vI (se.2.1 0 x3)]) (st := []) d_Wri_writeAll_21 k_862 k_864 kp_33 k_11 k_865 shC_40 rfl pd_159 ⟨by decide, by decide, Nat.le_of_ble_eq_true rfl⟩ rfl (ct_Wri_write H (fun wr_2 H => ?_))
        refine EV_aload_n 0 d_Wri_writeAll_24 rfl rfl ?_
        refine EV_get (j := 3) d_Wri_writeAll_25 shC_40 rfl fI10 (by decide) k_248 rfl ?_
        refine EV_iload_n 3 d_Wri_writeAll_28 rfl rfl ?_
        refine EV_aload_n 0 d_Wri_writeAll_29 rfl rfl ?_
        refine EV_get (j := 6) d_Wri_writeAll_30 shC_40 rfl fI10 (by decide) k_251 rfl ?_
        obtain ⟨hi, H⟩ := H
        refine EV_iast d_Wri_writeAll_33 shC_42 hi shC_42_s ?_
        obtain ⟨hr, H⟩ := H
        refine EV_iinc (lv' := [(0, vR 40), (1, vR 39), (2, vI x2), (3, vI (x3 + 1))]) 3 [1, 2, 3, 0] d_Wri_writeAll_34 rfl (by decide) hr rfl ?_
        refine EV_goto (tgt := 6) d_Wri_writeAll_37 (by decide) ?_
        exact ih x2 (x3 + 1) (sA wr_2 1 x3 (wr_2.1 0)) H
theorem ct_Wri_writeAll {l : Launch} {o0 o1 nm o3 o4 o5 te o7 o8 se wr : Ob} {x2 : Int} {K : Ob → Prop} {K' : Option AV → List AC → Prop} (H : wp_Wri_writeAll x2 nm te se wr K) (hK : ∀ (wr' : Ob), K wr' → K' none (shC o0 o1 nm o3 o4 o5 te o7 o8 se wr')) : MT l ⟨"PrunedSearch$TermWriter", "writeAll", "([II)V"⟩ prog_8_method_5_code 4 none 5 [vR 40, vR 39, vI x2] (shC o0 o1 nm o3 o4 o5 te o7 o8 se wr) K' := by
  unfold wp_Wri_writeAll at H
  refine MT_of (lv := [(0, vR 40), (1, vR 39), (2, vI x2)]) rfl rfl (Nat.le_of_ble_eq_true rfl) rfl ?_
  refine EV_aload_n 0 d_Wri_writeAll_0 rfl rfl ?_
  refine EV_callV (as := []) (st := []) d_Wri_writeAll_1 k_861 k_464 k_465 k_11 k_466 shC_40 rfl pd_59 ⟨by decide, by decide, Nat.le_of_ble_eq_true rfl⟩ rfl (ct_Wri_clear H (fun wr_1 H => ?_))
  refine EV_iconst d_Wri_writeAll_4 ⟨by decide, by decide⟩ ?_
  refine EV_istore_n (lv' := [(0, vR 40), (1, vR 39), (2, vI x2), (3, vI 0)]) [1, 2, 3, 0] d_Wri_writeAll_5 rfl (by decide) rfl ?_
  obtain ⟨n, H⟩ := H
  exact ct_Wri_writeAll_6 hK n x2 0 wr_1 H
theorem ct_Wri_letter_28 {l : Launch} {o0 o1 o2 o3 o4 o5 o6 o7 o8 o9 wr : Ob} {K : Int → Prop} {K' : Option AV → List AC → Prop} {x1 : Int} {x2 : Int} {s0 : Int} (H : Wri_letter_28 x1 x2 s0 wr K) (hK : ∀ (r : Int), K r → K' (some (vI r)) (shC o0 o1 o2 o3 o4 o5 o6 o7 o8 o9 wr)) : EV l prog_8_method_4_code "PrunedSearch$TermWriter" 4 (some .char) 0 28 [(0, vR 40), (1, vI x1), (2, vI x2)] [vI s0] (shC o0 o1 o2 o3 o4 o5 o6 o7 o8 o9 wr) K' := by
  refine EV_istore_n (lv' := [(0, vR 40), (1, vI x1), (2, vI x2), (3, vI s0)]) [1, 2, 3, 0] d_Wri_letter_28 rfl (by decide) rfl ?_
  refine EV_iload_n 2 d_Wri_letter_29 rfl rfl ?_
  refine EV_if_lt (tgt := 56) d_Wri_letter_30 (by decide) (fun hc => ?_) (fun hc => ?_)
  · have H := H.1 hc
    refine EV_iconst d_Wri_letter_56 ⟨by decide, by decide⟩ ?_
    exact EV_iret d_Wri_letter_57 rfl (nw_char ⟨by decide, by decide⟩) (hK _ H)
  · have H := H.2 hc
    refine EV_iload_n 2 d_Wri_letter_33 rfl rfl ?_
    refine EV_aload_n 0 d_Wri_letter_34 rfl rfl ?_
    refine EV_get (j := 3) d_Wri_letter_35 shC_40 rfl fI10 (by decide) k_248 rfl ?_
    refine EV_iload_n 1 d_Wri_letter_38 rfl rfl ?_
    obtain ⟨hi, H⟩ := H
    refine EV_iald d_Wri_letter_39 shC_42 hi ?_
    refine EV_iload_n 3 d_Wri_letter_40 rfl rfl ?_
    obtain ⟨hr, H⟩ := H
    refine EV_isub d_Wri_letter_41 hr ?_
    refine EV_icmp_ge (tgt := 56) d_Wri_letter_42 (by decide) (fun hc => ?_) (fun hc => ?_)
    · have H := H.1 hc
      refine EV_iconst d_Wri_letter_56 ⟨by decide, by decide⟩ ?_
      exact EV_iret d_Wri_letter_57 rfl (nw_char ⟨by decide, by decide⟩) (hK _ H)
    · have H := H.2 hc
      refine EV_aload_n 0 d_Wri_letter_45 rfl rfl ?_
      refine EV_get (j := 2) d_Wri_letter_46 shC_40 rfl fI10 (by decide) k_247 rfl ?_
      refine EV_iload_n 3 d_Wri_letter_49 rfl rfl ?_
      refine EV_iload_n 2 d_Wri_letter_50 rfl rfl ?_
      obtain ⟨hr, H⟩ := H
      refine EV_iadd d_Wri_letter_51 hr ?_
      obtain ⟨hi, H⟩ := H
      refine EV_cald d_Wri_letter_52 shC_41 hi ?_
      refine EV_goto (tgt := 57) d_Wri_letter_53 (by decide) ?_
      obtain ⟨hb, H⟩ := H
      exact EV_iret d_Wri_letter_57 rfl (nw_char hb) (hK _ H)
theorem ct_Wri_letter {l : Launch} {o0 o1 o2 o3 o4 o5 o6 o7 o8 o9 wr : Ob} {x1 : Int} {x2 : Int} {K : Int → Prop} {K' : Option AV → List AC → Prop} (H : wp_Wri_letter x1 x2 wr K) (hK : ∀ (r : Int), K r → K' (some (vI r)) (shC o0 o1 o2 o3 o4 o5 o6 o7 o8 o9 wr)) : MT l ⟨"PrunedSearch$TermWriter", "letter", "(II)C"⟩ prog_8_method_4_code 4 (some .char) 0 [vR 40, vI x1, vI x2] (shC o0 o1 o2 o3 o4 o5 o6 o7 o8 o9 wr) K' := by
  unfold wp_Wri_letter at H
  refine MT_of (lv := [(0, vR 40), (1, vI x1), (2, vI x2)]) rfl rfl (Nat.le_of_ble_eq_true rfl) rfl ?_
  refine EV_iload_n 1 d_Wri_letter_0 rfl rfl ?_
  refine EV_if_lt (tgt := 10) d_Wri_letter_1 (by decide) (fun hc => ?_) (fun hc => ?_)
  · have H := H.1 hc
    refine EV_iconst d_Wri_letter_10 ⟨by decide, by decide⟩ ?_
    exact EV_iret d_Wri_letter_11 rfl (nw_char ⟨by decide, by decide⟩) (hK _ H)
  · have H := H.2 hc
    refine EV_iload_n 1 d_Wri_letter_4 rfl rfl ?_
    refine EV_bipush d_Wri_letter_5 (by decide +kernel) ⟨by decide, by decide⟩ ?_
    refine EV_icmp_lt (tgt := 12) d_Wri_letter_7 (by decide) (fun hc => ?_) (fun hc => ?_)
    · have H := H.1 hc
      refine EV_iload_n 1 d_Wri_letter_12 rfl rfl ?_
      refine EV_if_ne (tgt := 20) d_Wri_letter_13 (by decide) (fun hc => ?_) (fun hc => ?_)
      · have H := H.1 hc
        refine EV_aload_n 0 d_Wri_letter_20 rfl rfl ?_
        refine EV_get (j := 3) d_Wri_letter_21 shC_40 rfl fI10 (by decide) k_248 rfl ?_
        refine EV_iload_n 1 d_Wri_letter_24 rfl rfl ?_
        refine EV_iconst d_Wri_letter_25 ⟨by decide, by decide⟩ ?_
        obtain ⟨hr, H⟩ := H
        refine EV_isub d_Wri_letter_26 hr ?_
        obtain ⟨hi, H⟩ := H
        refine EV_iald d_Wri_letter_27 shC_42 hi ?_
        exact ct_Wri_letter_28 H hK
      · have H := H.2 hc
        refine EV_iconst d_Wri_letter_16 ⟨by decide, by decide⟩ ?_
        refine EV_goto (tgt := 28) d_Wri_letter_17 (by decide) ?_
        exact ct_Wri_letter_28 H hK
    · have H := H.2 hc
      refine EV_iconst d_Wri_letter_10 ⟨by decide, by decide⟩ ?_
      exact EV_iret d_Wri_letter_11 rfl (nw_char ⟨by decide, by decide⟩) (hK _ H)
theorem ct_Sea_letter_47 {l : Launch} {o0 o1 nm o3 o4 o5 te o7 o8 se : Ob} {K : Int → Ob → Prop} {K' : Option AV → List AC → Prop} {x1 : Int} {x2 : Int} {wr : Ob} (H : Sea_letter_47 x1 x2 nm te se wr K) (hK : ∀ (r : Int) (wr' : Ob), K r wr' → K' (some (vI r)) (shC o0 o1 nm o3 o4 o5 te o7 o8 se wr')) : EV l prog_7_method_12_code "PrunedSearch$Search" 3 (some .char) 6 47 [(0, vR 38), (1, vI x1), (2, vI x2)] [] (shC o0 o1 nm o3 o4 o5 te o7 o8 se wr) K' := by
  refine EV_aload_n 0 d_Sea_letter_47 rfl rfl ?_
  refine EV_get (j := 5) d_Sea_letter_48 shC_38 rfl fI9 (by decide) k_281 rfl ?_
  refine EV_iload_n 1 d_Sea_letter_51 rfl rfl ?_
  refine EV_iload_n 2 d_Sea_letter_52 rfl rfl ?_
  refine EV_callV (as := [vI x1, vI x2]) (st := []) d_Sea_letter_53 k_908 k_909 k_910 k_11 k_911 shC_40 rfl pd_160 ⟨by decide, by decide, Nat.le_of_ble_eq_true rfl⟩ rfl (ct_Wri_letter H (fun r_2 H => ?_))
  obtain ⟨hb, H⟩ := H
  exact EV_iret d_Sea_letter_56 rfl (nw_char hb) (hK _ _ H)
theorem ct_Sea_letter {l : Launch} {o0 o1 nm o3 o4 o5 te o7 o8 se wr : Ob} {x1 : Int} {x2 : Int} {K : Int → Ob → Prop} {K' : Option AV → List AC → Prop} (H : wp_Sea_letter x1 x2 nm te se wr K) (hK : ∀ (r : Int) (wr' : Ob), K r wr' → K' (some (vI r)) (shC o0 o1 nm o3 o4 o5 te o7 o8 se wr')) : MT l ⟨"PrunedSearch$Search", "letter", "(II)C"⟩ prog_7_method_12_code 3 (some .char) 6 [vR 38, vI x1, vI x2] (shC o0 o1 nm o3 o4 o5 te o7 o8 se wr) K' := by
  unfold wp_Sea_letter at H
  refine MT_of (lv := [(0, vR 38), (1, vI x1), (2, vI x2)]) rfl rfl (Nat.le_of_ble_eq_true rfl) rfl ?_
  refine EV_aload_n 0 d_Sea_letter_0 rfl rfl ?_
  refine EV_get (j := 8) d_Sea_letter_1 shC_38 rfl fI9 (by decide) k_284 rfl ?_
  refine EV_iconst d_Sea_letter_4 ⟨by decide, by decide⟩ ?_
  refine EV_icmp_ne (tgt := 20) d_Sea_letter_5 (by decide) (fun hc => ?_) (fun hc => ?_)
  · have H := H.1 hc
    refine EV_iconst d_Sea_letter_20 ⟨by decide, by decide⟩ ?_
    exact EV_iret d_Sea_letter_21 rfl (nw_char ⟨by decide, by decide⟩) (hK _ _ H)
  · have H := H.2 hc
    refine EV_iload_n 1 d_Sea_letter_8 rfl rfl ?_
    refine EV_if_lt (tgt := 20) d_Sea_letter_9 (by decide) (fun hc => ?_) (fun hc => ?_)
    · have H := H.1 hc
      refine EV_iconst d_Sea_letter_20 ⟨by decide, by decide⟩ ?_
      exact EV_iret d_Sea_letter_21 rfl (nw_char ⟨by decide, by decide⟩) (hK _ _ H)
    · have H := H.2 hc
      refine EV_iload_n 1 d_Sea_letter_12 rfl rfl ?_
      refine EV_aload_n 0 d_Sea_letter_13 rfl rfl ?_
      refine EV_get (j := 7) d_Sea_letter_14 shC_38 rfl fI9 (by decide) k_283 rfl ?_
      refine EV_icmp_lt (tgt := 22) d_Sea_letter_17 (by decide) (fun hc => ?_) (fun hc => ?_)
      · have H := H.1 hc
        refine EV_aload_n 0 d_Sea_letter_22 rfl rfl ?_
        refine EV_get (j := 5) d_Sea_letter_23 shC_38 rfl fI9 (by decide) k_281 rfl ?_
        refine EV_callV (as := []) (st := []) d_Sea_letter_26 k_853 k_854 k_855 k_11 k_856 shC_40 rfl pd_162 ⟨by decide, by decide, Nat.le_of_ble_eq_true rfl⟩ rfl (ct_Wri_isDone H (fun r_1 H => ?_))
        refine EV_if_ne (tgt := 47) d_Sea_letter_29 (by decide) (fun hc => ?_) (fun hc => ?_)
        · have H := H.1 hc
          exact ct_Sea_letter_47 H hK
        · have H := H.2 hc
          refine EV_aload_n 0 d_Sea_letter_32 rfl rfl ?_
          refine EV_get (j := 5) d_Sea_letter_33 shC_38 rfl fI9 (by decide) k_281 rfl ?_
          refine EV_aload_n 0 d_Sea_letter_36 rfl rfl ?_
          refine EV_get (j := 6) d_Sea_letter_37 shC_38 rfl fI9 (by decide) k_282 rfl ?_
          refine EV_aload_n 0 d_Sea_letter_40 rfl rfl ?_
          refine EV_get (j := 7) d_Sea_letter_41 shC_38 rfl fI9 (by decide) k_283 rfl ?_
          refine EV_callV (as := [vR 39, vI (se.1 0)]) (st := []) d_Sea_letter_44 k_857 k_858 k_859 k_11 k_860 shC_40 rfl pd_161 ⟨by decide, by decide, Nat.le_of_ble_eq_true rfl⟩ rfl (ct_Wri_writeAll H (fun wr_3 H => ?_))
          exact ct_Sea_letter_47 H hK
      · have H := H.2 hc
        refine EV_iconst d_Sea_letter_20 ⟨by decide, by decide⟩ ?_
        exact EV_iret d_Sea_letter_21 rfl (nw_char ⟨by decide, by decide⟩) (hK _ _ H)
theorem ct_P_answer {l : Launch} {o0 o1 nm o3 o4 o5 te o7 o8 se wr : Ob} {x1 : Int} {x2 : Int} {K : Int → Ob → Prop} {K' : Option AV → List AC → Prop} (H : wp_P_answer x1 x2 nm te se wr K) (hK : ∀ (r : Int) (wr' : Ob), K r wr' → K' (some (vI r)) (shC o0 o1 nm o3 o4 o5 te o7 o8 se wr')) : MT l ⟨"PrunedSearch", "answer", "(II)C"⟩ prog_1_method_6_code 3 (some .char) 7 [vR 0, vI x1, vI x2] (shC o0 o1 nm o3 o4 o5 te o7 o8 se wr) K' := by
  unfold wp_P_answer at H
  refine MT_of (lv := [(0, vR 0), (1, vI x1), (2, vI x2)]) rfl rfl (Nat.le_of_ble_eq_true rfl) rfl ?_
  refine EV_aload_n 0 d_P_answer_0 rfl rfl ?_
  refine EV_get (j := 4) d_P_answer_1 shC_0 rfl fI0 (by decide) k_323 rfl ?_
  refine EV_iload_n 1 d_P_answer_4 rfl rfl ?_
  refine EV_iload_n 2 d_P_answer_5 rfl rfl ?_
  refine EV_callV (as := [vI x1, vI x2]) (st := []) d_P_answer_6 k_849 k_850 k_851 k_7 k_852 shC_38 rfl pd_163 ⟨by decide, by decide, Nat.le_of_ble_eq_true rfl⟩ rfl (ct_Sea_letter H (fun r_2 wr_1 H => ?_))
  obtain ⟨hb, H⟩ := H
  exact EV_iret d_P_answer_9 rfl (nw_char hb) (hK _ _ H)
theorem ct_P_clauses {l : Launch} {o0 o1 o2 pr o4 o5 o6 o7 o8 o9 o10 : Ob} {K : Int → Prop} {K' : Option AV → List AC → Prop} (H : wp_P_clauses pr K) (hK : ∀ (r : Int), K r → K' (some (vI r)) (shC o0 o1 o2 pr o4 o5 o6 o7 o8 o9 o10)) : MT l ⟨"PrunedSearch", "clauses", "()I"⟩ prog_1_method_7_code 1 (some .int) 1 [vR 0] (shC o0 o1 o2 pr o4 o5 o6 o7 o8 o9 o10) K' := by
  unfold wp_P_clauses at H
  refine MT_of (lv := [(0, vR 0)]) rfl rfl (Nat.le_of_ble_eq_true rfl) rfl ?_
  refine EV_aload_n 0 d_P_clauses_0 rfl rfl ?_
  refine EV_get (j := 2) d_P_clauses_1 shC_0 rfl fI0 (by decide) k_321 rfl ?_
  refine EV_callV (as := []) (st := []) d_P_clauses_4 k_467 k_468 k_469 k_4 k_470 shC_9 rfl pd_88 ⟨by decide, by decide, Nat.le_of_ble_eq_true rfl⟩ rfl (ct_Cod_partCount_p H (fun r_1 H => ?_))
  exact EV_iret d_P_clauses_7 rfl (nw_int _) (hK _ H)
theorem ct_Sea_tryCount {l : Launch} {o0 o1 o2 o3 o4 o5 o6 o7 o8 se o10 : Ob} {K : Int → Prop} {K' : Option AV → List AC → Prop} (H : wp_Sea_tryCount se K) (hK : ∀ (r : Int), K r → K' (some (vI r)) (shC o0 o1 o2 o3 o4 o5 o6 o7 o8 se o10)) : MT l ⟨"PrunedSearch$Search", "tryCount", "()I"⟩ prog_7_method_13_code 1 (some .int) 0 [vR 38] (shC o0 o1 o2 o3 o4 o5 o6 o7 o8 se o10) K' := by
  unfold wp_Sea_tryCount at H
  refine MT_of (lv := [(0, vR 38)]) rfl rfl (Nat.le_of_ble_eq_true rfl) rfl ?_
  refine EV_aload_n 0 d_Sea_tryCount_0 rfl rfl ?_
  refine EV_get (j := 11) d_Sea_tryCount_1 shC_38 rfl fI9 (by decide) k_287 rfl ?_
  exact EV_iret d_Sea_tryCount_4 rfl (nw_int _) (hK _ H)
theorem ct_P_tries {l : Launch} {o0 o1 o2 o3 o4 o5 o6 o7 o8 se o10 : Ob} {K : Int → Prop} {K' : Option AV → List AC → Prop} (H : wp_P_tries se K) (hK : ∀ (r : Int), K r → K' (some (vI r)) (shC o0 o1 o2 o3 o4 o5 o6 o7 o8 se o10)) : MT l ⟨"PrunedSearch", "tries", "()I"⟩ prog_1_method_8_code 1 (some .int) 1 [vR 0] (shC o0 o1 o2 o3 o4 o5 o6 o7 o8 se o10) K' := by
  unfold wp_P_tries at H
  refine MT_of (lv := [(0, vR 0)]) rfl rfl (Nat.le_of_ble_eq_true rfl) rfl ?_
  refine EV_aload_n 0 d_P_tries_0 rfl rfl ?_
  refine EV_get (j := 4) d_P_tries_1 shC_0 rfl fI0 (by decide) k_323 rfl ?_
  refine EV_callV (as := []) (st := []) d_P_tries_4 k_920 k_921 k_922 k_7 k_923 shC_38 rfl pd_164 ⟨by decide, by decide, Nat.le_of_ble_eq_true rfl⟩ rfl (ct_Sea_tryCount H (fun r_1 H => ?_))
  exact EV_iret d_P_tries_7 rfl (nw_int _) (hK _ H)
theorem ct_Sea_choiceCount {l : Launch} {o0 o1 o2 o3 o4 o5 o6 o7 ch o9 o10 : Ob} {K : Int → Prop} {K' : Option AV → List AC → Prop} (H : wp_Sea_choiceCount ch K) (hK : ∀ (r : Int), K r → K' (some (vI r)) (shC o0 o1 o2 o3 o4 o5 o6 o7 ch o9 o10)) : MT l ⟨"PrunedSearch$Search", "choiceCount", "()I"⟩ prog_7_method_14_code 1 (some .int) 1 [vR 38] (shC o0 o1 o2 o3 o4 o5 o6 o7 ch o9 o10) K' := by
  unfold wp_Sea_choiceCount at H
  refine MT_of (lv := [(0, vR 38)]) rfl rfl (Nat.le_of_ble_eq_true rfl) rfl ?_
  refine EV_aload_n 0 d_Sea_choiceCount_0 rfl rfl ?_
  refine EV_get (j := 4) d_Sea_choiceCount_1 shC_38 rfl fI9 (by decide) k_280 rfl ?_
  refine EV_callV (as := []) (st := []) d_Sea_choiceCount_4 k_693 k_694 k_695 k_10 k_696 shC_31 rfl pd_119 ⟨by decide, by decide, Nat.le_of_ble_eq_true rfl⟩ rfl (ct_Cho_count H (fun r_1 H => ?_))
  exact EV_iret d_Sea_choiceCount_7 rfl (nw_int _) (hK _ H)
theorem ct_P_choices {l : Launch} {o0 o1 o2 o3 o4 o5 o6 o7 ch o9 o10 : Ob} {K : Int → Prop} {K' : Option AV → List AC → Prop} (H : wp_P_choices ch K) (hK : ∀ (r : Int), K r → K' (some (vI r)) (shC o0 o1 o2 o3 o4 o5 o6 o7 ch o9 o10)) : MT l ⟨"PrunedSearch", "choices", "()I"⟩ prog_1_method_9_code 1 (some .int) 2 [vR 0] (shC o0 o1 o2 o3 o4 o5 o6 o7 ch o9 o10) K' := by
  unfold wp_P_choices at H
  refine MT_of (lv := [(0, vR 0)]) rfl rfl (Nat.le_of_ble_eq_true rfl) rfl ?_
  refine EV_aload_n 0 d_P_choices_0 rfl rfl ?_
  refine EV_get (j := 4) d_P_choices_1 shC_0 rfl fI0 (by decide) k_323 rfl ?_
  refine EV_callV (as := []) (st := []) d_P_choices_4 k_928 k_929 k_930 k_7 k_931 shC_38 rfl pd_165 ⟨by decide, by decide, Nat.le_of_ble_eq_true rfl⟩ rfl (ct_Sea_choiceCount H (fun r_1 H => ?_))
  exact EV_iret d_P_choices_7 rfl (nw_int _) (hK _ H)
theorem ct_Sea_branchLength {l : Launch} {o0 o1 o2 o3 o4 o5 o6 o7 o8 se o10 : Ob} {K : Int → Prop} {K' : Option AV → List AC → Prop} (H : wp_Sea_branchLength se K) (hK : ∀ (r : Int), K r → K' (some (vI r)) (shC o0 o1 o2 o3 o4 o5 o6 o7 o8 se o10)) : MT l ⟨"PrunedSearch$Search", "branchLength", "()I"⟩ prog_7_method_15_code 1 (some .int) 0 [vR 38] (shC o0 o1 o2 o3 o4 o5 o6 o7 o8 se o10) K' := by
  unfold wp_Sea_branchLength at H
  refine MT_of (lv := [(0, vR 38)]) rfl rfl (Nat.le_of_ble_eq_true rfl) rfl ?_
  refine EV_aload_n 0 d_Sea_branchLength_0 rfl rfl ?_
  refine EV_get (j := 10) d_Sea_branchLength_1 shC_38 rfl fI9 (by decide) k_286 rfl ?_
  exact EV_iret d_Sea_branchLength_4 rfl (nw_int _) (hK _ H)
theorem ct_P_length {l : Launch} {o0 o1 o2 o3 o4 o5 o6 o7 o8 se o10 : Ob} {K : Int → Prop} {K' : Option AV → List AC → Prop} (H : wp_P_length se K) (hK : ∀ (r : Int), K r → K' (some (vI r)) (shC o0 o1 o2 o3 o4 o5 o6 o7 o8 se o10)) : MT l ⟨"PrunedSearch", "length", "()I"⟩ prog_1_method_10_code 1 (some .int) 1 [vR 0] (shC o0 o1 o2 o3 o4 o5 o6 o7 o8 se o10) K' := by
  unfold wp_P_length at H
  refine MT_of (lv := [(0, vR 0)]) rfl rfl (Nat.le_of_ble_eq_true rfl) rfl ?_
  refine EV_aload_n 0 d_P_length_0 rfl rfl ?_
  refine EV_get (j := 4) d_P_length_1 shC_0 rfl fI0 (by decide) k_323 rfl ?_
  refine EV_callV (as := []) (st := []) d_P_length_4 k_936 k_937 k_938 k_7 k_939 shC_38 rfl pd_166 ⟨by decide, by decide, Nat.le_of_ble_eq_true rfl⟩ rfl (ct_Sea_branchLength H (fun r_1 H => ?_))
  exact EV_iret d_P_length_7 rfl (nw_int _) (hK _ H)
theorem ct_Goa_count_7 {l : Launch} {o0 o1 o2 o3 o4 o5 o6 go o8 o9 o10 : Ob} {K : Int → Prop} {K' : Option AV → List AC → Prop} (hK : ∀ (r : Int), K r → K' (some (vI r)) (shC o0 o1 o2 o3 o4 o5 o6 go o8 o9 o10)) : ∀ (n : Nat) (x1 : Int) (x2 : Int), Goa_count_7 n x1 x2 go K → EV l prog_5_method_10_code "PrunedSearch$Goals" 3 (some .int) 1 7 [(0, vR 27), (1, vI x1), (2, vI x2)] [] (shC o0 o1 o2 o3 o4 o5 o6 go o8 o9 o10) K' := by
  intro n
  induction n with
  | zero =>
    intro x1 x2 H
    exact H.elim
  | succ n ih =>
    intro x1 x2 H
    refine EV_iload_n 2 d_Goa_count_7 rfl rfl ?_
    refine EV_iconst d_Goa_count_8 ⟨by decide, by decide⟩ ?_
    refine EV_icmp_eq (tgt := 31) d_Goa_count_9 (by decide) (fun hc => ?_) (fun hc => ?_)
    · have H := H.1 hc
      refine EV_iload_n 1 d_Goa_count_31 rfl rfl ?_
      exact EV_iret d_Goa_count_32 rfl (nw_int _) (hK _ H)
    · have H := H.2 hc
      refine EV_iload_n 1 d_Goa_count_12 rfl rfl ?_
      refine EV_sipush d_Goa_count_13 (by decide +kernel) ⟨by decide, by decide⟩ ?_
      refine EV_icmp_ge (tgt := 31) d_Goa_count_16 (by decide) (fun hc => ?_) (fun hc => ?_)
      · have H := H.1 hc
        refine EV_iload_n 1 d_Goa_count_31 rfl rfl ?_
        exact EV_iret d_Goa_count_32 rfl (nw_int _) (hK _ H)
      · have H := H.2 hc
        obtain ⟨hr, H⟩ := H
        refine EV_iinc (lv' := [(0, vR 27), (1, vI (x1 + 1)), (2, vI x2)]) 1 [1, 0, 2] d_Goa_count_19 rfl (by decide) hr rfl ?_
        refine EV_aload_n 0 d_Goa_count_22 rfl rfl ?_
        refine EV_iload_n 2 d_Goa_count_23 rfl rfl ?_
        refine EV_callV (as := [vI x2]) (st := []) d_Goa_count_24 k_723 k_724 k_725 k_9 k_726 shC_27 rfl pd_115 ⟨by decide, by decide, Nat.le_of_ble_eq_true rfl⟩ rfl (ct_Goa_after H (fun r_1 H => ?_))
        refine EV_istore_n (lv' := [(0, vR 27), (1, vI (x1 + 1)), (2, vI r_1)]) [1, 2, 0] d_Goa_count_27 rfl (by decide) rfl ?_
        refine EV_goto (tgt := 7) d_Goa_count_28 (by decide) ?_
        exact ih (x1 + 1) r_1 H
theorem ct_Goa_count {l : Launch} {o0 o1 o2 o3 o4 o5 o6 go o8 o9 o10 : Ob} {K : Int → Prop} {K' : Option AV → List AC → Prop} (H : wp_Goa_count go K) (hK : ∀ (r : Int), K r → K' (some (vI r)) (shC o0 o1 o2 o3 o4 o5 o6 go o8 o9 o10)) : MT l ⟨"PrunedSearch$Goals", "count", "()I"⟩ prog_5_method_10_code 3 (some .int) 1 [vR 27] (shC o0 o1 o2 o3 o4 o5 o6 go o8 o9 o10) K' := by
  unfold wp_Goa_count at H
  refine MT_of (lv := [(0, vR 27)]) rfl rfl (Nat.le_of_ble_eq_true rfl) rfl ?_
  refine EV_iconst d_Goa_count_0 ⟨by decide, by decide⟩ ?_
  refine EV_istore_n (lv' := [(0, vR 27), (1, vI 0)]) [1, 0] d_Goa_count_1 rfl (by decide) rfl ?_
  refine EV_aload_n 0 d_Goa_count_2 rfl rfl ?_
  refine EV_get (j := 4) d_Goa_count_3 shC_27 rfl fI7 (by decide) k_199 rfl ?_
  refine EV_istore_n (lv' := [(0, vR 27), (1, vI 0), (2, vI (go.1 1))]) [1, 2, 0] d_Goa_count_6 rfl (by decide) rfl ?_
  obtain ⟨n, H⟩ := H
  exact ct_Goa_count_7 hK n 0 (go.1 1) H
theorem ct_Sea_goalCount {l : Launch} {o0 o1 o2 o3 o4 o5 o6 go o8 se o10 : Ob} {K : Int → Prop} {K' : Option AV → List AC → Prop} (H : wp_Sea_goalCount go se K) (hK : ∀ (r : Int), K r → K' (some (vI r)) (shC o0 o1 o2 o3 o4 o5 o6 go o8 se o10)) : MT l ⟨"PrunedSearch$Search", "goalCount", "()I"⟩ prog_7_method_16_code 1 (some .int) 2 [vR 38] (shC o0 o1 o2 o3 o4 o5 o6 go o8 se o10) K' := by
  unfold wp_Sea_goalCount at H
  refine MT_of (lv := [(0, vR 38)]) rfl rfl (Nat.le_of_ble_eq_true rfl) rfl ?_
  refine EV_aload_n 0 d_Sea_goalCount_0 rfl rfl ?_
  refine EV_get (j := 9) d_Sea_goalCount_1 shC_38 rfl fI9 (by decide) k_285 rfl ?_
  refine EV_if_eq (tgt := 11) d_Sea_goalCount_4 (by decide) (fun hc => ?_) (fun hc => ?_)
  · have H := H.1 hc
    refine EV_aload_n 0 d_Sea_goalCount_11 rfl rfl ?_
    refine EV_get (j := 3) d_Sea_goalCount_12 shC_38 rfl fI9 (by decide) k_279 rfl ?_
    refine EV_callV (as := []) (st := []) d_Sea_goalCount_15 k_948 k_949 k_950 k_9 k_951 shC_27 rfl pd_167 ⟨by decide, by decide, Nat.le_of_ble_eq_true rfl⟩ rfl (ct_Goa_count H (fun r_1 H => ?_))
    exact EV_iret d_Sea_goalCount_18 rfl (nw_int _) (hK _ H)
  · have H := H.2 hc
    refine EV_iconst d_Sea_goalCount_7 ⟨by decide, by decide⟩ ?_
    refine EV_goto (tgt := 18) d_Sea_goalCount_8 (by decide) ?_
    exact EV_iret d_Sea_goalCount_18 rfl (nw_int _) (hK _ H)
theorem ct_P_goals {l : Launch} {o0 o1 o2 o3 o4 o5 o6 go o8 se o10 : Ob} {K : Int → Prop} {K' : Option AV → List AC → Prop} (H : wp_P_goals go se K) (hK : ∀ (r : Int), K r → K' (some (vI r)) (shC o0 o1 o2 o3 o4 o5 o6 go o8 se o10)) : MT l ⟨"PrunedSearch", "goals", "()I"⟩ prog_1_method_11_code 1 (some .int) 3 [vR 0] (shC o0 o1 o2 o3 o4 o5 o6 go o8 se o10) K' := by
  unfold wp_P_goals at H
  refine MT_of (lv := [(0, vR 0)]) rfl rfl (Nat.le_of_ble_eq_true rfl) rfl ?_
  refine EV_aload_n 0 d_P_goals_0 rfl rfl ?_
  refine EV_get (j := 4) d_P_goals_1 shC_0 rfl fI0 (by decide) k_323 rfl ?_
  refine EV_callV (as := []) (st := []) d_P_goals_4 k_944 k_945 k_946 k_7 k_947 shC_38 rfl pd_168 ⟨by decide, by decide, Nat.le_of_ble_eq_true rfl⟩ rfl (ct_Sea_goalCount H (fun r_1 H => ?_))
  exact EV_iret d_P_goals_7 rfl (nw_int _) (hK _ H)
theorem ct_Cod_clear_p {l : Launch} {o0 o1 o2 pr o4 o5 o6 o7 o8 o9 o10 : Ob} {K : Ob → Prop} {K' : Option AV → List AC → Prop} (H : wp_Cod_clear_p pr K) (hK : ∀ (pr' : Ob), K pr' → K' none (shC o0 o1 o2 pr' o4 o5 o6 o7 o8 o9 o10)) : MT l ⟨"PrunedSearch$Code", "clear", "()V"⟩ prog_4_method_2_code 1 none 0 [vR 9] (shC o0 o1 o2 pr o4 o5 o6 o7 o8 o9 o10) K' := by
  unfold wp_Cod_clear_p at H
  refine MT_of (lv := [(0, vR 9)]) rfl rfl (Nat.le_of_ble_eq_true rfl) rfl ?_
  refine EV_aload_n 0 d_Cod_clear_r_0 rfl rfl ?_
  refine EV_iconst d_Cod_clear_r_1 ⟨by decide, by decide⟩ ?_
  refine EV_put (j := 3) d_Cod_clear_r_2 shC_9 rfl fI4 fO4 fN4 (by decide) k_71 rfl rfl (fun ad => nf_int ad _) (Nat.le_of_ble_eq_true rfl) shC_9_3 ?_
  refine EV_aload_n 0 d_Cod_clear_r_5 rfl rfl ?_
  refine EV_iconst d_Cod_clear_r_6 ⟨by decide, by decide⟩ ?_
  refine EV_put (j := 4) d_Cod_clear_r_7 shC_9 rfl fI4 fO4 fN4 (by decide) k_72 rfl rfl (fun ad => nf_int ad _) (Nat.le_of_ble_eq_true rfl) shC_9_4 ?_
  exact EV_vret d_Cod_clear_r_10 rfl (hK _ H)
theorem ct_Nam_clear {l : Launch} {o0 o1 nm o3 o4 o5 o6 o7 o8 o9 o10 : Ob} {K : Ob → Prop} {K' : Option AV → List AC → Prop} (H : wp_Nam_clear nm K) (hK : ∀ (nm' : Ob), K nm' → K' none (shC o0 o1 nm' o3 o4 o5 o6 o7 o8 o9 o10)) : MT l ⟨"PrunedSearch$Names", "clear", "()V"⟩ prog_6_method_7_code 1 none 1 [vR 7] (shC o0 o1 nm o3 o4 o5 o6 o7 o8 o9 o10) K' := by
  unfold wp_Nam_clear at H
  refine MT_of (lv := [(0, vR 7)]) rfl rfl (Nat.le_of_ble_eq_true rfl) rfl ?_
  refine EV_aload_n 0 d_Nam_clear_0 rfl rfl ?_
  refine EV_iconst d_Nam_clear_1 ⟨by decide, by decide⟩ ?_
  refine EV_put (j := 1) d_Nam_clear_2 shC_7 rfl fI3 fO3 fN3 (by decide) k_49 rfl rfl (fun ad => nf_int ad _) (Nat.le_of_ble_eq_true rfl) shC_7_1 ?_
  refine EV_aload_n 0 d_Nam_clear_5 rfl rfl ?_
  refine EV_callV (as := []) (st := []) d_Nam_clear_6 k_961 k_608 k_609 k_3 k_610 shC_7 rfl pd_92 ⟨by decide, by decide, Nat.le_of_ble_eq_true rfl⟩ rfl (ct_Nam_drop H (fun nm_1 H => ?_))
  exact EV_vret d_Nam_clear_9 rfl (hK _ H)
theorem ct_P_forget {l : Launch} {o0 o1 nm pr o4 o5 te go ch se wr : Ob} {K : Ob → Ob → Ob → Ob → Ob → Ob → Ob → Prop} {K' : Option AV → List AC → Prop} (H : wp_P_forget nm pr te go ch se wr K) (hK : ∀ (nm' pr' te' go' ch' se' wr' : Ob), K nm' pr' te' go' ch' se' wr' → K' none (shC o0 o1 nm' pr' o4 o5 te' go' ch' se' wr')) : MT l ⟨"PrunedSearch", "forget", "()V"⟩ prog_1_method_12_code 1 none 3 [vR 0] (shC o0 o1 nm pr o4 o5 te go ch se wr) K' := by
  unfold wp_P_forget at H
  refine MT_of (lv := [(0, vR 0)]) rfl rfl (Nat.le_of_ble_eq_true rfl) rfl ?_
  refine EV_aload_n 0 d_P_forget_0 rfl rfl ?_
  refine EV_get (j := 4) d_P_forget_1 shC_0 rfl fI0 (by decide) k_323 rfl ?_
  refine EV_callV (as := []) (st := []) d_P_forget_4 k_445 k_446 k_447 k_7 k_448 shC_38 rfl pd_104 ⟨by decide, by decide, Nat.le_of_ble_eq_true rfl⟩ rfl (ct_Sea_end H (fun te_1 go_2 ch_3 se_4 wr_5 H => ?_))
  refine EV_aload_n 0 d_P_forget_7 rfl rfl ?_
  refine EV_get (j := 2) d_P_forget_8 shC_0 rfl fI0 (by decide) k_321 rfl ?_
  refine EV_callV (as := []) (st := []) d_P_forget_11 k_956 k_506 k_507 k_4 k_508 shC_9 rfl pd_69 ⟨by decide, by decide, Nat.le_of_ble_eq_true rfl⟩ rfl (ct_Cod_clear_p H (fun pr_6 H => ?_))
  refine EV_aload_n 0 d_P_forget_14 rfl rfl ?_
  refine EV_get (j := 1) d_P_forget_15 shC_0 rfl fI0 (by decide) k_320 rfl ?_
  refine EV_callV (as := []) (st := []) d_P_forget_18 k_957 k_958 k_959 k_3 k_960 shC_7 rfl pd_169 ⟨by decide, by decide, Nat.le_of_ble_eq_true rfl⟩ rfl (ct_Nam_clear H (fun nm_7 H => ?_))
  exact EV_vret d_P_forget_21 rfl (hK _ _ _ _ _ _ _ H)
