/-! printed by wip/gen/drive.py -/
theorem ct_M_equalize {l : Launch} {m : Ob} {x1 : Int} {x2 : Int} {x3 : Int} {x4 : Int} {K : Int → Ob → Prop} {K' : Option AV → List AC → Prop} (H : wp_M_equalize x1 x2 x3 x4 m K) (hK : ∀ (r : Int) (m' : Ob), K r m' → K' (some (vI r)) (shM m')) : MT l ⟨"PrunedSearchModel", "equalize", "(IIII)Z"⟩ prog_13_method_31_code 19 (some .boolean) 4 [vR 0, vI x1, vI x2, vI x3, vI x4] (shM m) K' := by
  unfold wp_M_equalize at H
  refine MT_of (lv := [(0, vR 0), (1, vI x1), (2, vI x2), (3, vI x3), (4, vI x4)]) rfl rfl (Nat.le_of_ble_eq_true rfl) rfl ?_
  refine EV_aload_n 0 d_M_equalize_0 rfl rfl ?_
  refine EV_get (j := 50) d_M_equalize_1 shM_0 rfl fI11 (by decide) k_1018 rfl ?_
  refine EV_iconst d_M_equalize_4 ⟨by decide, by decide⟩ ?_
  refine EV_iload_n 1 d_M_equalize_5 rfl rfl ?_
  obtain ⟨hi, H⟩ := H
  refine EV_iast d_M_equalize_6 shM_29 hi shM_29_s ?_
  refine EV_aload_n 0 d_M_equalize_7 rfl rfl ?_
  refine EV_get (j := 50) d_M_equalize_8 shM_0 rfl fI11 (by decide) k_1018 rfl ?_
  refine EV_iconst d_M_equalize_11 ⟨by decide, by decide⟩ ?_
  refine EV_iload_n 2 d_M_equalize_12 rfl rfl ?_
  obtain ⟨hi, H⟩ := H
  refine EV_iast d_M_equalize_13 shM_29 hi shM_29_s ?_
  refine EV_aload_n 0 d_M_equalize_14 rfl rfl ?_
  refine EV_get (j := 50) d_M_equalize_15 shM_0 rfl fI11 (by decide) k_1018 rfl ?_
  refine EV_iconst d_M_equalize_18 ⟨by decide, by decide⟩ ?_
  refine EV_iload_n 3 d_M_equalize_19 rfl rfl ?_
  obtain ⟨hi, H⟩ := H
  refine EV_iast d_M_equalize_20 shM_29 hi shM_29_s ?_
  refine EV_aload_n 0 d_M_equalize_21 rfl rfl ?_
  refine EV_get (j := 50) d_M_equalize_22 shM_0 rfl fI11 (by decide) k_1018 rfl ?_
  refine EV_iconst d_M_equalize_25 ⟨by decide, by decide⟩ ?_
  refine EV_iload 4 d_M_equalize_26 rfl ?_
  obtain ⟨hi, H⟩ := H
  refine EV_iast d_M_equalize_28 shM_29 hi shM_29_s ?_
  refine EV_iconst d_M_equalize_29 ⟨by decide, by decide⟩ ?_
  refine EV_istore (lv' := [(0, vR 0), (1, vI x1), (2, vI x2), (3, vI x3), (4, vI x4), (5, vI 4)]) [1, 2, 3, 4, 5, 0] d_M_equalize_30 (by decide) rfl ?_
  refine EV_lv (lv' := [(0, vR 0), (5, vI 4)]) [0, 5] rfl ?_
  obtain ⟨n, H⟩ := H
  exact ct_M_equalize_32 hK n 4 (sA (sA (sA (sA m 24 0 x1) 24 1 x2) 24 2 x3) 24 3 x4) H
theorem ct_M_symbolsOf_19 {l : Launch} {K : Int → Ob → Prop} {K' : Option AV → List AC → Prop} (hK : ∀ (r : Int) (m' : Ob), K r m' → K' (some (vI r)) (shM m')) : ∀ (n : Nat) (x3 : Int) (x4 : Int) (m : Ob), M_symbolsOf_19 n x3 x4 m K → EV l prog_13_method_28_code "PrunedSearchModel" 5 (some .int) 2 19 [(0, vR 0), (3, vI x3), (4, vI x4)] [] (shM m) K' := by
  intro n
  induction n with
  | zero =>
    intro x3 x4 m H
    exact H.elim
  | succ n ih =>
    intro x3 x4 m H
    refine EV_iload 2 d_M_symbolsOf_19 rfl ?_
    refine EV_if_le (tgt := 77) d_M_symbolsOf_21 (by decide) (fun hc => ?_) (fun hc => ?_)
    · have H := H.1 hc
      refine EV_iload_n 1 d_M_symbolsOf_77 rfl rfl ?_
      exact EV_iret d_M_symbolsOf_78 rfl (nw_int _) (hK _ _ H)
    · have H := H.2 hc
      refine EV_iload_n 1 d_M_symbolsOf_24 rfl rfl ?_
      refine EV_bipush d_M_symbolsOf_25 (by decide +kernel) ⟨by decide, by decide⟩ ?_
      refine EV_icmp_ge (tgt := 77) d_M_symbolsOf_27 (by decide) (fun hc => ?_) (fun hc => ?_)
      · have H := H.1 hc
        refine EV_iload_n 1 d_M_symbolsOf_77 rfl rfl ?_
        exact EV_iret d_M_symbolsOf_78 rfl (nw_int _) (hK _ _ H)
      · have H := H.2 hc
        refine EV_aload_n 0 d_M_symbolsOf_30 rfl rfl ?_
        refine EV_aload_n 0 d_M_symbolsOf_31 rfl rfl ?_
        refine EV_get (j := 50) d_M_symbolsOf_32 shM_0 rfl fI11 (by decide) k_1018 rfl ?_
        refine EV_iload 2 d_M_symbolsOf_35 rfl ?_
        refine EV_iconst d_M_symbolsOf_37 ⟨by decide, by decide⟩ ?_
        obtain ⟨hr, H⟩ := H
        refine EV_isub d_M_symbolsOf_38 hr ?_
        obtain ⟨hi, H⟩ := H
        refine EV_iald d_M_symbolsOf_39 shM_29 hi ?_
        refine EV_aload_n 0 d_M_symbolsOf_40 rfl rfl ?_
        refine EV_get (j := 50) d_M_symbolsOf_41 shM_0 rfl fI11 (by decide) k_1018 rfl ?_
        refine EV_iload 2 d_M_symbolsOf_44 rfl ?_
        refine EV_iconst d_M_symbolsOf_46 ⟨by decide, by decide⟩ ?_
        obtain ⟨hr, H⟩ := H
        refine EV_isub d_M_symbolsOf_47 hr ?_
        obtain ⟨hi, H⟩ := H
        refine EV_iald d_M_symbolsOf_48 shM_29 hi ?_
        refine EV_callV (as := [vI (m.2.1 24 (x4 - 2)), vI (m.2.1 24 (x4 - 1))]) (st := []) d_M_symbolsOf_49 k_1264 k_1266 kp_67 k_12 k_1267 shM_0 rfl pd_23 ⟨by decide, by decide, Nat.le_of_ble_eq_true rfl⟩ rfl (ct_M_follow H (fun m_1 H => ?_))
        refine EV_iload_n 1 d_M_symbolsOf_52 rfl rfl ?_
        refine EV_iconst d_M_symbolsOf_53 ⟨by decide, by decide⟩ ?_
        obtain ⟨hr, H⟩ := H
        refine EV_iadd d_M_symbolsOf_54 hr ?_
        refine EV_istore_n (lv' := [(0, vR 0), (3, vI (x3 + 1)), (4, vI x4)]) [1, 0, 2] d_M_symbolsOf_55 rfl (by decide) rfl ?_
        refine EV_aload_n 0 d_M_symbolsOf_56 rfl rfl ?_
        refine EV_aload_n 0 d_M_symbolsOf_57 rfl rfl ?_
        refine EV_get (j := 48) d_M_symbolsOf_58 shM_0 rfl fI11 (by decide) k_1016 rfl ?_
        refine EV_aload_n 0 d_M_symbolsOf_61 rfl rfl ?_
        refine EV_get (j := 49) d_M_symbolsOf_62 shM_0 rfl fI11 (by decide) k_1017 rfl ?_
        refine EV_iload 2 d_M_symbolsOf_65 rfl ?_
        refine EV_iconst d_M_symbolsOf_67 ⟨by decide, by decide⟩ ?_
        obtain ⟨hr, H⟩ := H
        refine EV_isub d_M_symbolsOf_68 hr ?_
        refine EV_callV (as := [vI (m_1.1 19), vI (m_1.1 20), vI (x4 - 2)]) (st := []) d_M_symbolsOf_69 k_1284 k_1286 kp_72 k_12 k_1287 shM_0 rfl pd_25 ⟨by decide, by decide, Nat.le_of_ble_eq_true rfl⟩ rfl (ct_M_pushAll H (fun r_3 m_2 H => ?_))
        refine EV_istore (lv' := [(0, vR 0), (3, vI (x3 + 1)), (4, vI r_3)]) [1, 2, 0] d_M_symbolsOf_72 (by decide) rfl ?_
        refine EV_goto (tgt := 19) d_M_symbolsOf_74 (by decide) ?_
        exact ih (x3 + 1) r_3 m_2 H
theorem ct_M_symbolsOf {l : Launch} {m : Ob} {x1 : Int} {x2 : Int} {K : Int → Ob → Prop} {K' : Option AV → List AC → Prop} (H : wp_M_symbolsOf x1 x2 m K) (hK : ∀ (r : Int) (m' : Ob), K r m' → K' (some (vI r)) (shM m')) : MT l ⟨"PrunedSearchModel", "symbolsOf", "(II)I"⟩ prog_13_method_28_code 5 (some .int) 2 [vR 0, vI x1, vI x2] (shM m) K' := by
  unfold wp_M_symbolsOf at H
  refine MT_of (lv := [(0, vR 0), (1, vI x1), (2, vI x2)]) rfl rfl (Nat.le_of_ble_eq_true rfl) rfl ?_
  refine EV_iconst d_M_symbolsOf_0 ⟨by decide, by decide⟩ ?_
  refine EV_istore_n (lv' := [(0, vR 0), (1, vI x1), (2, vI x2), (3, vI 0)]) [1, 2, 3, 0] d_M_symbolsOf_1 rfl (by decide) rfl ?_
  refine EV_aload_n 0 d_M_symbolsOf_2 rfl rfl ?_
  refine EV_get (j := 50) d_M_symbolsOf_3 shM_0 rfl fI11 (by decide) k_1018 rfl ?_
  refine EV_iconst d_M_symbolsOf_6 ⟨by decide, by decide⟩ ?_
  refine EV_iload_n 1 d_M_symbolsOf_7 rfl rfl ?_
  obtain ⟨hi, H⟩ := H
  refine EV_iast d_M_symbolsOf_8 shM_29 hi shM_29_s ?_
  refine EV_aload_n 0 d_M_symbolsOf_9 rfl rfl ?_
  refine EV_get (j := 50) d_M_symbolsOf_10 shM_0 rfl fI11 (by decide) k_1018 rfl ?_
  refine EV_iconst d_M_symbolsOf_13 ⟨by decide, by decide⟩ ?_
  refine EV_iload_n 2 d_M_symbolsOf_14 rfl rfl ?_
  obtain ⟨hi, H⟩ := H
  refine EV_iast d_M_symbolsOf_15 shM_29 hi shM_29_s ?_
  refine EV_iconst d_M_symbolsOf_16 ⟨by decide, by decide⟩ ?_
  refine EV_istore (lv' := [(0, vR 0), (1, vI x1), (2, vI x2), (3, vI 0), (4, vI 2)]) [1, 2, 3, 4, 0] d_M_symbolsOf_17 (by decide) rfl ?_
  refine EV_lv (lv' := [(0, vR 0), (3, vI 0), (4, vI 2)]) [0, 3, 4] rfl ?_
  obtain ⟨n, H⟩ := H
  exact ct_M_symbolsOf_19 hK n 0 2 (sA (sA m 24 0 x1) 24 1 x2) H
theorem ct_M_large_99 {l : Launch} {K : Int → Ob → Prop} {K' : Option AV → List AC → Prop} {x1 : Int} {m : Ob} (H : M_large_99 x1 m K) (hK : ∀ (r : Int) (m' : Ob), K r m' → K' (some (vI r)) (shM m')) : EV l prog_13_method_39_code "PrunedSearchModel" 3 (some .boolean) 3 99 [(1, vI x1)] [] (shM m) K' := by
  refine EV_iload_n 0 d_M_large_99 rfl rfl ?_
  refine EV_bipush d_M_large_100 (by decide +kernel) ⟨by decide, by decide⟩ ?_
  refine EV_icmp_le (tgt := 109) d_M_large_102 (by decide) (fun hc => ?_) (fun hc => ?_)
  · have H := H.1 hc
    refine EV_iconst d_M_large_109 ⟨by decide, by decide⟩ ?_
    exact EV_iret d_M_large_110 rfl (nw_bool (by decide)) (hK _ _ H)
  · have H := H.2 hc
    refine EV_iconst d_M_large_105 ⟨by decide, by decide⟩ ?_
    refine EV_goto (tgt := 110) d_M_large_106 (by decide) ?_
    exact EV_iret d_M_large_110 rfl (nw_bool (by decide)) (hK _ _ H)
theorem ct_M_large_65 {l : Launch} {K : Int → Ob → Prop} {K' : Option AV → List AC → Prop} (hK : ∀ (r : Int) (m' : Ob), K r m' → K' (some (vI r)) (shM m')) : ∀ (n : Nat) (x1 : Int) (x2 : Int) (m : Ob), M_large_65 n x1 x2 m K → EV l prog_13_method_39_code "PrunedSearchModel" 3 (some .boolean) 3 65 [(0, vR 0), (1, vI x1), (2, vI x2)] [] (shM m) K' := by
  intro n
  induction n with
  | zero =>
    intro x1 x2 m H
    exact H.elim
  | succ n ih =>
    intro x1 x2 m H
    refine EV_iload_n 2 d_M_large_65 rfl rfl ?_
    refine EV_aload_n 0 d_M_large_66 rfl rfl ?_
    refine EV_get (j := 31) d_M_large_67 shM_0 rfl fI11 (by decide) k_999 rfl ?_
    refine EV_icmp_ge (tgt := 99) d_M_large_70 (by decide) (fun hc => ?_) (fun hc => ?_)
    · have H := H.1 hc
      refine EV_lv (lv' := [(1, vI x1)]) [1] rfl ?_
      exact ct_M_large_99 H hK
    · have H := H.2 hc
      refine EV_iload_n 1 d_M_large_73 rfl rfl ?_
      refine EV_bipush d_M_large_74 (by decide +kernel) ⟨by decide, by decide⟩ ?_
      refine EV_icmp_ge (tgt := 99) d_M_large_76 (by decide) (fun hc => ?_) (fun hc => ?_)
      · have H := H.1 hc
        refine EV_lv (lv' := [(1, vI x1)]) [1] rfl ?_
        exact ct_M_large_99 H hK
      · have H := H.2 hc
        refine EV_iload_n 1 d_M_large_79 rfl rfl ?_
        refine EV_aload_n 0 d_M_large_80 rfl rfl ?_
        refine EV_aload_n 0 d_M_large_81 rfl rfl ?_
        refine EV_get (j := 32) d_M_large_82 shM_0 rfl fI11 (by decide) k_1000 rfl ?_
        refine EV_iload_n 2 d_M_large_85 rfl rfl ?_
        obtain ⟨hi, H⟩ := H
        refine EV_iald d_M_large_86 shM_19 hi ?_
        refine EV_iconst d_M_large_87 ⟨by decide, by decide⟩ ?_
        refine EV_callV (as := [vI (m.2.1 14 x2), vI 0]) (st := [vI x1]) d_M_large_88 k_1296 k_1298 kp_75 k_12 k_1299 shM_0 rfl pd_28 ⟨by decide, by decide, Nat.le_of_ble_eq_true rfl⟩ rfl (ct_M_symbolsOf H (fun r_2 m_1 H => ?_))
        obtain ⟨hr, H⟩ := H
        refine EV_iadd d_M_large_91 hr ?_
        refine EV_istore_n (lv' := [(0, vR 0), (1, vI (x1 + r_2)), (2, vI x2)]) [1, 0, 2] d_M_large_92 rfl (by decide) rfl ?_
        obtain ⟨hr, H⟩ := H
        refine EV_iinc (lv' := [(0, vR 0), (1, vI (x1 + r_2)), (2, vI (x2 + 1))]) 2 [1, 2, 0] d_M_large_93 rfl (by decide) hr rfl ?_
        refine EV_goto (tgt := 65) d_M_large_96 (by decide) ?_
        exact ih (x1 + r_2) (x2 + 1) m_1 H
theorem ct_M_large_63 {l : Launch} {K : Int → Ob → Prop} {K' : Option AV → List AC → Prop} {x1 : Int} {m : Ob} (H : M_large_63 x1 m K) (hK : ∀ (r : Int) (m' : Ob), K r m' → K' (some (vI r)) (shM m')) : EV l prog_13_method_39_code "PrunedSearchModel" 3 (some .boolean) 3 63 [(0, vR 0), (1, vI x1)] [] (shM m) K' := by
  refine EV_iconst d_M_large_63 ⟨by decide, by decide⟩ ?_
  refine EV_istore_n (lv' := [(0, vR 0), (1, vI x1), (2, vI 0)]) [1, 2, 0] d_M_large_64 rfl (by decide) rfl ?_
  obtain ⟨n, H⟩ := H
  exact ct_M_large_65 hK n x1 0 m H
theorem ct_M_large_55 {l : Launch} {K : Int → Ob → Prop} {K' : Option AV → List AC → Prop} {L4 : Int → Int → Ob → Prop} {x2 : Int} {s0 : Int} {s1 : Int} {m : Ob} (hL4 : ∀ (x1 : Int) (x2 : Int) (m : Ob), L4 x1 x2 m → EV l prog_13_method_39_code "PrunedSearchModel" 3 (some .boolean) 3 4 [(0, vR 0), (1, vI x1), (2, vI x2)] [] (shM m) K') (H : M_large_55 L4 x2 s0 s1 m K) (hK : ∀ (r : Int) (m' : Ob), K r m' → K' (some (vI r)) (shM m')) : EV l prog_13_method_39_code "PrunedSearchModel" 3 (some .boolean) 3 55 [(0, vR 0), (2, vI x2)] [vI s0, vI s1] (shM m) K' := by
  obtain ⟨hr, H⟩ := H
  refine EV_iadd d_M_large_55 hr ?_
  refine EV_istore_n (lv' := [(0, vR 0), (1, vI (s1 + s0)), (2, vI x2)]) [1, 0, 2] d_M_large_56 rfl (by decide) rfl ?_
  obtain ⟨hr, H⟩ := H
  refine EV_iinc (lv' := [(0, vR 0), (1, vI (s1 + s0)), (2, vI (x2 + 1))]) 2 [1, 2, 0] d_M_large_57 rfl (by decide) hr rfl ?_
  refine EV_goto (tgt := 4) d_M_large_60 (by decide) ?_
  exact hL4 (s1 + s0) (x2 + 1) m H
theorem ct_M_large_4 {l : Launch} {K : Int → Ob → Prop} {K' : Option AV → List AC → Prop} (hK : ∀ (r : Int) (m' : Ob), K r m' → K' (some (vI r)) (shM m')) : ∀ (n : Nat) (x1 : Int) (x2 : Int) (m : Ob), M_large_4 n x1 x2 m K → EV l prog_13_method_39_code "PrunedSearchModel" 3 (some .boolean) 3 4 [(0, vR 0), (1, vI x1), (2, vI x2)] [] (shM m) K' := by
  intro n
  induction n with
  | zero =>
    intro x1 x2 m H
    exact H.elim
  | succ n ih =>
    intro x1 x2 m H
    refine EV_iload_n 2 d_M_large_4 rfl rfl ?_
    refine EV_aload_n 0 d_M_large_5 rfl rfl ?_
    refine EV_get (j := 42) d_M_large_6 shM_0 rfl fI11 (by decide) k_1010 rfl ?_
    refine EV_icmp_ge (tgt := 63) d_M_large_9 (by decide) (fun hc => ?_) (fun hc => ?_)
    · have H := H.1 hc
      refine EV_lv (lv' := [(0, vR 0), (1, vI x1)]) [0, 1] rfl ?_
      exact ct_M_large_63 H hK
    · have H := H.2 hc
      refine EV_iload_n 1 d_M_large_12 rfl rfl ?_
      refine EV_bipush d_M_large_13 (by decide +kernel) ⟨by decide, by decide⟩ ?_
      refine EV_icmp_ge (tgt := 63) d_M_large_15 (by decide) (fun hc => ?_) (fun hc => ?_)
      · have H := H.1 hc
        refine EV_lv (lv' := [(0, vR 0), (1, vI x1)]) [0, 1] rfl ?_
        exact ct_M_large_63 H hK
      · have H := H.2 hc
        refine EV_iload_n 1 d_M_large_18 rfl rfl ?_
        refine EV_aload_n 0 d_M_large_19 rfl rfl ?_
        refine EV_get (j := 24) d_M_large_20 shM_0 rfl fI11 (by decide) k_992 rfl ?_
        refine EV_aload_n 0 d_M_large_23 rfl rfl ?_
        refine EV_get (j := 43) d_M_large_24 shM_0 rfl fI11 (by decide) k_1011 rfl ?_
        refine EV_iload_n 2 d_M_large_27 rfl rfl ?_
        obtain ⟨hi, H⟩ := H
        refine EV_iald d_M_large_28 shM_24 hi ?_
        obtain ⟨hi, H⟩ := H
        refine EV_iald d_M_large_29 shM_14 hi ?_
        refine EV_bipush d_M_large_30 (by decide +kernel) ⟨by decide, by decide⟩ ?_
        refine EV_icmp_ne (tgt := 39) d_M_large_32 (by decide) (fun hc => ?_) (fun hc => ?_)
        · have H := H.1 hc
          refine EV_aload_n 0 d_M_large_39 rfl rfl ?_
          refine EV_aload_n 0 d_M_large_40 rfl rfl ?_
          refine EV_get (j := 43) d_M_large_41 shM_0 rfl fI11 (by decide) k_1011 rfl ?_
          refine EV_iload_n 2 d_M_large_44 rfl rfl ?_
          obtain ⟨hi, H⟩ := H
          refine EV_iald d_M_large_45 shM_24 hi ?_
          refine EV_aload_n 0 d_M_large_46 rfl rfl ?_
          refine EV_get (j := 44) d_M_large_47 shM_0 rfl fI11 (by decide) k_1012 rfl ?_
          refine EV_iload_n 2 d_M_large_50 rfl rfl ?_
          obtain ⟨hi, H⟩ := H
          refine EV_iald d_M_large_51 shM_25 hi ?_
          refine EV_callV (as := [vI (m.2.1 19 x2), vI (m.2.1 20 x2)]) (st := [vI x1]) d_M_large_52 k_1296 k_1298 kp_75 k_12 k_1299 shM_0 rfl pd_28 ⟨by decide, by decide, Nat.le_of_ble_eq_true rfl⟩ rfl (ct_M_symbolsOf H (fun r_4 m_3 H => ?_))
          refine EV_lv (lv' := [(0, vR 0), (2, vI x2)]) [0, 2] rfl ?_
          exact ct_M_large_55 (fun x1 x2 m' H => ih x1 x2 m' H) H hK
        · have H := H.2 hc
          refine EV_iconst d_M_large_35 ⟨by decide, by decide⟩ ?_
          refine EV_goto (tgt := 55) d_M_large_36 (by decide) ?_
          refine EV_lv (lv' := [(0, vR 0), (2, vI x2)]) [0, 2] rfl ?_
          exact ct_M_large_55 (fun x1 x2 m' H => ih x1 x2 m' H) H hK
theorem ct_M_large {l : Launch} {m : Ob} {K : Int → Ob → Prop} {K' : Option AV → List AC → Prop} (H : wp_M_large m K) (hK : ∀ (r : Int) (m' : Ob), K r m' → K' (some (vI r)) (shM m')) : MT l ⟨"PrunedSearchModel", "large", "()Z"⟩ prog_13_method_39_code 3 (some .boolean) 3 [vR 0] (shM m) K' := by
  unfold wp_M_large at H
  refine MT_of (lv := [(0, vR 0)]) rfl rfl (Nat.le_of_ble_eq_true rfl) rfl ?_
  refine EV_iconst d_M_large_0 ⟨by decide, by decide⟩ ?_
  refine EV_istore_n (lv' := [(0, vR 0), (1, vI 0)]) [1, 0] d_M_large_1 rfl (by decide) rfl ?_
  refine EV_iconst d_M_large_2 ⟨by decide, by decide⟩ ?_
  refine EV_istore_n (lv' := [(0, vR 0), (1, vI 0), (2, vI 0)]) [1, 2, 0] d_M_large_3 rfl (by decide) rfl ?_
  obtain ⟨n, H⟩ := H
  exact ct_M_large_4 hK n 0 0 m H
theorem ct_M_resolve {l : Launch} {m : Ob} {x1 : Int} {x2 : Int} {K : Ob → Prop} {K' : Option AV → List AC → Prop} (H : wp_M_resolve x1 x2 m K) (hK : ∀ (m' : Ob), K m' → K' none (shM m')) : MT l ⟨"PrunedSearchModel", "resolve", "(II)V"⟩ prog_13_method_41_code 5 none 5 [vR 0, vI x1, vI x2] (shM m) K' := by
  unfold wp_M_resolve at H
  refine MT_of (lv := [(0, vR 0), (1, vI x1), (2, vI x2)]) rfl rfl (Nat.le_of_ble_eq_true rfl) rfl ?_
  refine EV_aload_n 0 d_M_resolve_0 rfl rfl ?_
  refine EV_get (j := 43) d_M_resolve_1 shM_0 rfl fI11 (by decide) k_1011 rfl ?_
  refine EV_aload_n 0 d_M_resolve_4 rfl rfl ?_
  refine EV_get (j := 42) d_M_resolve_5 shM_0 rfl fI11 (by decide) k_1010 rfl ?_
  obtain ⟨hi, H⟩ := H
  refine EV_iald d_M_resolve_8 shM_24 hi ?_
  refine EV_istore_n (lv' := [(0, vR 0), (1, vI x1), (2, vI x2), (3, vI (m.2.1 19 (m.1 18)))]) [1, 2, 3, 0] d_M_resolve_9 rfl (by decide) rfl ?_
  refine EV_aload_n 0 d_M_resolve_10 rfl rfl ?_
  refine EV_get (j := 44) d_M_resolve_11 shM_0 rfl fI11 (by decide) k_1012 rfl ?_
  refine EV_aload_n 0 d_M_resolve_14 rfl rfl ?_
  refine EV_get (j := 42) d_M_resolve_15 shM_0 rfl fI11 (by decide) k_1010 rfl ?_
  obtain ⟨hi, H⟩ := H
  refine EV_iald d_M_resolve_18 shM_25 hi ?_
  refine EV_istore (lv' := [(0, vR 0), (1, vI x1), (2, vI x2), (3, vI (m.2.1 19 (m.1 18))), (4, vI (m.2.1 20 (m.1 18)))]) [1, 2, 3, 4, 0] d_M_resolve_19 (by decide) rfl ?_
  refine EV_aload_n 0 d_M_resolve_21 rfl rfl ?_
  refine EV_get (j := 37) d_M_resolve_22 shM_0 rfl fI11 (by decide) k_1005 rfl ?_
  refine EV_aload_n 0 d_M_resolve_25 rfl rfl ?_
  refine EV_get (j := 36) d_M_resolve_26 shM_0 rfl fI11 (by decide) k_1004 rfl ?_
  refine EV_iload_n 1 d_M_resolve_29 rfl rfl ?_
  obtain ⟨hi, H⟩ := H
  refine EV_iast d_M_resolve_30 shM_20 hi shM_20_s ?_
  refine EV_aload_n 0 d_M_resolve_31 rfl rfl ?_
  refine EV_get (j := 38) d_M_resolve_32 shM_0 rfl fI11 (by decide) k_1006 rfl ?_
  refine EV_aload_n 0 d_M_resolve_35 rfl rfl ?_
  refine EV_get (j := 36) d_M_resolve_36 shM_0 rfl fI11 (by decide) k_1004 rfl ?_
  refine EV_iload_n 2 d_M_resolve_39 rfl rfl ?_
  obtain ⟨hi, H⟩ := H
  refine EV_iast d_M_resolve_40 shM_21 hi shM_21_s ?_
  refine EV_aload_n 0 d_M_resolve_41 rfl rfl ?_
  refine EV_aload_n 0 d_M_resolve_42 rfl rfl ?_
  refine EV_get (j := 36) d_M_resolve_43 shM_0 rfl fI11 (by decide) k_1004 rfl ?_
  refine EV_iconst d_M_resolve_46 ⟨by decide, by decide⟩ ?_
  obtain ⟨hr, H⟩ := H
  refine EV_iadd d_M_resolve_47 hr ?_
  refine EV_put (j := 36) d_M_resolve_48 shM_0 rfl fI11 fO11 fN11 (by decide) k_1004 rfl rfl (fun ad => nf_int ad _) (Nat.le_of_ble_eq_true rfl) shM_0_36 ?_
  refine EV_aload_n 0 d_M_resolve_51 rfl rfl ?_
  refine EV_aload_n 0 d_M_resolve_52 rfl rfl ?_
  refine EV_get (j := 35) d_M_resolve_53 shM_0 rfl fI11 (by decide) k_1003 rfl ?_
  refine EV_iconst d_M_resolve_56 ⟨by decide, by decide⟩ ?_
  obtain ⟨hr, H⟩ := H
  refine EV_iadd d_M_resolve_57 hr ?_
  refine EV_put (j := 35) d_M_resolve_58 shM_0 rfl fI11 fO11 fN11 (by decide) k_1003 rfl rfl (fun ad => nf_int ad _) (Nat.le_of_ble_eq_true rfl) shM_0_35 ?_
  refine EV_aload_n 0 d_M_resolve_61 rfl rfl ?_
  refine EV_aload_n 0 d_M_resolve_62 rfl rfl ?_
  refine EV_get (j := 36) d_M_resolve_63 shM_0 rfl fI11 (by decide) k_1004 rfl ?_
  refine EV_callV (as := [vI ((m.1 16) + 1)]) (st := []) d_M_resolve_66 k_1230 k_1232 kp_60 k_12 k_1233 shM_0 rfl pd_21 ⟨by decide, by decide, Nat.le_of_ble_eq_true rfl⟩ rfl (ct_M_clearFrame H (fun m_1 H => ?_))
  refine EV_aload_n 0 d_M_resolve_69 rfl rfl ?_
  refine EV_bipush d_M_resolve_70 (by decide +kernel) ⟨by decide, by decide⟩ ?_
  refine EV_iload_n 1 d_M_resolve_72 rfl rfl ?_
  obtain ⟨hr, H⟩ := H
  refine EV_imul d_M_resolve_73 hr ?_
  refine EV_aload_n 0 d_M_resolve_74 rfl rfl ?_
  refine EV_get (j := 36) d_M_resolve_75 shM_0 rfl fI11 (by decide) k_1004 rfl ?_
  refine EV_iload_n 3 d_M_resolve_78 rfl rfl ?_
  refine EV_iload 4 d_M_resolve_79 rfl ?_
  refine EV_callV (as := [vI (40 * x1), vI (m_1.1 16), vI (m.2.1 19 (m.1 18)), vI (m.2.1 20 (m.1 18))]) (st := []) d_M_resolve_81 k_1272 k_1274 kp_69 k_12 k_1275 shM_0 rfl pd_31 ⟨by decide, by decide, Nat.le_of_ble_eq_true rfl⟩ rfl (ct_M_equalize H (fun r_3 m_2 H => ?_))
  refine EV_if_ne (tgt := 93) d_M_resolve_84 (by decide) (fun hc => ?_) (fun hc => ?_)
  · have H := H.1 hc
    refine EV_aload_n 0 d_M_resolve_93 rfl rfl ?_
    refine EV_iconst d_M_resolve_94 ⟨by decide, by decide⟩ ?_
    refine EV_put (j := 33) d_M_resolve_95 shM_0 rfl fI11 fO11 fN11 (by decide) k_1001 rfl rfl (fun ad => nf_int ad _) (Nat.le_of_ble_eq_true rfl) shM_0_33 ?_
    refine EV_aload_n 0 d_M_resolve_98 rfl rfl ?_
    refine EV_iload_n 1 d_M_resolve_99 rfl rfl ?_
    refine EV_aload_n 0 d_M_resolve_100 rfl rfl ?_
    refine EV_get (j := 36) d_M_resolve_101 shM_0 rfl fI11 (by decide) k_1004 rfl ?_
    refine EV_iload_n 2 d_M_resolve_104 rfl rfl ?_
    refine EV_callV (as := [vI x1, vI (m_2.1 16), vI x2]) (st := []) d_M_resolve_105 k_1234 k_1236 kp_61 k_12 k_1237 shM_0 rfl pd_20 ⟨by decide, by decide, Nat.le_of_ble_eq_true rfl⟩ rfl (ct_M_prepend H (fun m_4 H => ?_))
    refine EV_aload_n 0 d_M_resolve_108 rfl rfl ?_
    refine EV_callV (as := []) (st := []) d_M_resolve_109 k_1292 k_1294 kp_74 k_12 k_1295 shM_0 rfl pd_30 ⟨by decide, by decide, Nat.le_of_ble_eq_true rfl⟩ rfl (ct_M_large H (fun r_6 m_5 H => ?_))
    refine EV_if_eq (tgt := 120) d_M_resolve_112 (by decide) (fun hc => ?_) (fun hc => ?_)
    · have H := H.1 hc
      exact EV_vret d_M_resolve_120 rfl (hK _ H)
    · have H := H.2 hc
      refine EV_aload_n 0 d_M_resolve_115 rfl rfl ?_
      refine EV_iconst d_M_resolve_116 ⟨by decide, by decide⟩ ?_
      refine EV_callV (as := [vI 4]) (st := []) d_M_resolve_117 k_1242 k_1244 kp_62 k_12 k_1245 shM_0 rfl pd_29 ⟨by decide, by decide, Nat.le_of_ble_eq_true rfl⟩ rfl (ct_M_end H (fun m_7 H => ?_))
      exact EV_vret d_M_resolve_120 rfl (hK _ H)
  · have H := H.2 hc
    refine EV_aload_n 0 d_M_resolve_87 rfl rfl ?_
    refine EV_iconst d_M_resolve_88 ⟨by decide, by decide⟩ ?_
    refine EV_put (j := 33) d_M_resolve_89 shM_0 rfl fI11 fO11 fN11 (by decide) k_1001 rfl rfl (fun ad => nf_int ad _) (Nat.le_of_ble_eq_true rfl) shM_0_33 ?_
    exact EV_vret d_M_resolve_92 rfl (hK _ H)
theorem ct_M_forward_187 {l : Launch} {K : Ob → Prop} {K' : Option AV → List AC → Prop} {x3 : Int} {x4 : Int} {m : Ob} (H : M_forward_187 x3 x4 m K) (hK : ∀ (m' : Ob), K m' → K' none (shM m')) : EV l prog_13_method_42_code "PrunedSearchModel" 5 none 6 187 [(0, vR 0), (3, vI x3), (4, vI x4)] [] (shM m) K' := by
  refine EV_aload_n 0 d_M_forward_187 rfl rfl ?_
  refine EV_iload_n 1 d_M_forward_188 rfl rfl ?_
  refine EV_iload 2 d_M_forward_189 rfl ?_
  refine EV_callV (as := [vI x3, vI x4]) (st := []) d_M_forward_191 k_1268 k_1270 kp_68 k_12 k_1271 shM_0 rfl pd_32 ⟨by decide, by decide, Nat.le_of_ble_eq_true rfl⟩ rfl (ct_M_resolve H (fun m_7 H => ?_))
  exact EV_vret d_M_forward_194 rfl (hK _ H)
theorem ct_M_forward_112 {l : Launch} {K : Ob → Prop} {K' : Option AV → List AC → Prop} {x1 : Int} {x2 : Int} {s0 : Int} {m : Ob} (H : M_forward_112 x1 x2 s0 m K) (hK : ∀ (m' : Ob), K m' → K' none (shM m')) : EV l prog_13_method_42_code "PrunedSearchModel" 5 none 6 112 [(0, vR 0), (1, vI x1), (2, vI x2)] [vI s0] (shM m) K' := by
  refine EV_istore_n (lv' := [(0, vR 0), (1, vI x1), (2, vI x2), (3, vI s0)]) [1, 2, 3, 0] d_M_forward_112 rfl (by decide) rfl ?_
  refine EV_iload_n 3 d_M_forward_113 rfl rfl ?_
  refine EV_if_ge (tgt := 123) d_M_forward_114 (by decide) (fun hc => ?_) (fun hc => ?_)
  · have H := H.1 hc
    refine EV_aload_n 0 d_M_forward_123 rfl rfl ?_
    refine EV_get (j := 36) d_M_forward_124 shM_0 rfl fI11 (by decide) k_1004 rfl ?_
    refine EV_bipush d_M_forward_127 (by decide +kernel) ⟨by decide, by decide⟩ ?_
    refine EV_icmp_ne (tgt := 138) d_M_forward_129 (by decide) (fun hc => ?_) (fun hc => ?_)
    · have H := H.1 hc
      refine EV_aload_n 0 d_M_forward_138 rfl rfl ?_
      refine EV_get (j := 39) d_M_forward_139 shM_0 rfl fI11 (by decide) k_1007 rfl ?_
      refine EV_istore (lv' := [(0, vR 0), (1, vI x1), (2, vI x2), (3, vI s0), (4, vI (m.1 17))]) [1, 2, 3, 4, 0] d_M_forward_142 (by decide) rfl ?_
      refine EV_aload_n 0 d_M_forward_144 rfl rfl ?_
      refine EV_iload_n 1 d_M_forward_145 rfl rfl ?_
      refine EV_iload_n 2 d_M_forward_146 rfl rfl ?_
      refine EV_iload_n 3 d_M_forward_147 rfl rfl ?_
      refine EV_callV (as := [vI x1, vI x2, vI s0]) (st := []) d_M_forward_148 k_1260 k_1262 kp_66 k_12 k_1263 shM_0 rfl pd_33 ⟨by decide, by decide, Nat.le_of_ble_eq_true rfl⟩ rfl (ct_M_candidate H (fun r_6 m_5 H => ?_))
      refine EV_if_lt (tgt := 187) d_M_forward_151 (by decide) (fun hc => ?_) (fun hc => ?_)
      · have H := H.1 hc
        refine EV_lv (lv' := [(0, vR 0), (3, vI s0), (4, vI (m.1 17))]) [0, 3, 4] rfl ?_
        exact ct_M_forward_187 H hK
      · have H := H.2 hc
        refine EV_aload_n 0 d_M_forward_154 rfl rfl ?_
        refine EV_get (j := 40) d_M_forward_155 shM_0 rfl fI11 (by decide) k_1008 rfl ?_
        refine EV_aload_n 0 d_M_forward_158 rfl rfl ?_
        refine EV_get (j := 39) d_M_forward_159 shM_0 rfl fI11 (by decide) k_1007 rfl ?_
        refine EV_aload_n 0 d_M_forward_162 rfl rfl ?_
        refine EV_get (j := 36) d_M_forward_163 shM_0 rfl fI11 (by decide) k_1004 rfl ?_
        obtain ⟨hi, H⟩ := H
        refine EV_iast d_M_forward_166 shM_22 hi shM_22_s ?_
        refine EV_aload_n 0 d_M_forward_167 rfl rfl ?_
        refine EV_get (j := 41) d_M_forward_168 shM_0 rfl fI11 (by decide) k_1009 rfl ?_
        refine EV_aload_n 0 d_M_forward_171 rfl rfl ?_
        refine EV_get (j := 39) d_M_forward_172 shM_0 rfl fI11 (by decide) k_1007 rfl ?_
        refine EV_iload_n 3 d_M_forward_175 rfl rfl ?_
        obtain ⟨hi, H⟩ := H
        refine EV_iast d_M_forward_176 shM_23 hi shM_23_s ?_
        refine EV_aload_n 0 d_M_forward_177 rfl rfl ?_
        refine EV_aload_n 0 d_M_forward_178 rfl rfl ?_
        refine EV_get (j := 39) d_M_forward_179 shM_0 rfl fI11 (by decide) k_1007 rfl ?_
        refine EV_iconst d_M_forward_182 ⟨by decide, by decide⟩ ?_
        obtain ⟨hr, H⟩ := H
        refine EV_iadd d_M_forward_183 hr ?_
        refine EV_put (j := 39) d_M_forward_184 shM_0 rfl fI11 fO11 fN11 (by decide) k_1007 rfl rfl (fun ad => nf_int ad _) (Nat.le_of_ble_eq_true rfl) shM_0_39 ?_
        refine EV_lv (lv' := [(0, vR 0), (3, vI s0), (4, vI (m.1 17))]) [0, 3, 4] rfl ?_
        exact ct_M_forward_187 H hK
    · have H := H.2 hc
      refine EV_aload_n 0 d_M_forward_132 rfl rfl ?_
      refine EV_iconst d_M_forward_133 ⟨by decide, by decide⟩ ?_
      refine EV_callV (as := [vI 3]) (st := []) d_M_forward_134 k_1242 k_1244 kp_62 k_12 k_1245 shM_0 rfl pd_29 ⟨by decide, by decide, Nat.le_of_ble_eq_true rfl⟩ rfl (ct_M_end H (fun m_8 H => ?_))
      exact EV_vret d_M_forward_137 rfl (hK _ H)
  · have H := H.2 hc
    refine EV_aload_n 0 d_M_forward_117 rfl rfl ?_
    refine EV_iconst d_M_forward_118 ⟨by decide, by decide⟩ ?_
    refine EV_put (j := 33) d_M_forward_119 shM_0 rfl fI11 fO11 fN11 (by decide) k_1001 rfl rfl (fun ad => nf_int ad _) (Nat.le_of_ble_eq_true rfl) shM_0_33 ?_
    exact EV_vret d_M_forward_122 rfl (hK _ H)
theorem ct_M_forward_74 {l : Launch} {K : Ob → Prop} {K' : Option AV → List AC → Prop} {s0 : Int} {m : Ob} (H : M_forward_74 s0 m K) (hK : ∀ (m' : Ob), K m' → K' none (shM m')) : EV l prog_13_method_42_code "PrunedSearchModel" 5 none 6 74 [] [vI s0, vR 0] (shM m) K' := by
  refine EV_put (j := 39) d_M_forward_74 shM_0 rfl fI11 fO11 fN11 (by decide) k_1007 rfl rfl (fun ad => nf_int ad _) (Nat.le_of_ble_eq_true rfl) shM_0_39 ?_
  exact EV_vret d_M_forward_77 rfl (hK _ H)
theorem ct_M_forward {l : Launch} {m : Ob} {K : Ob → Prop} {K' : Option AV → List AC → Prop} (H : wp_M_forward m K) (hK : ∀ (m' : Ob), K m' → K' none (shM m')) : MT l ⟨"PrunedSearchModel", "forward", "()V"⟩ prog_13_method_42_code 5 none 6 [vR 0] (shM m) K' := by
  unfold wp_M_forward at H
  refine MT_of (lv := [(0, vR 0)]) rfl rfl (Nat.le_of_ble_eq_true rfl) rfl ?_
  refine EV_aload_n 0 d_M_forward_0 rfl rfl ?_
  refine EV_aload_n 0 d_M_forward_1 rfl rfl ?_
  refine EV_get (j := 42) d_M_forward_2 shM_0 rfl fI11 (by decide) k_1010 rfl ?_
  refine EV_iconst d_M_forward_5 ⟨by decide, by decide⟩ ?_
  obtain ⟨hr, H⟩ := H
  refine EV_isub d_M_forward_6 hr ?_
  refine EV_put (j := 42) d_M_forward_7 shM_0 rfl fI11 fO11 fN11 (by decide) k_1010 rfl rfl (fun ad => nf_int ad _) (Nat.le_of_ble_eq_true rfl) shM_0_42 ?_
  refine EV_aload_n 0 d_M_forward_10 rfl rfl ?_
  refine EV_get (j := 43) d_M_forward_11 shM_0 rfl fI11 (by decide) k_1011 rfl ?_
  refine EV_aload_n 0 d_M_forward_14 rfl rfl ?_
  refine EV_get (j := 42) d_M_forward_15 shM_0 rfl fI11 (by decide) k_1010 rfl ?_
  obtain ⟨hi, H⟩ := H
  refine EV_iald d_M_forward_18 shM_24 hi ?_
  refine EV_istore_n (lv' := [(0, vR 0), (1, vI (m.2.1 19 ((m.1 18) - 1)))]) [1, 0] d_M_forward_19 rfl (by decide) rfl ?_
  refine EV_aload_n 0 d_M_forward_20 rfl rfl ?_
  refine EV_get (j := 44) d_M_forward_21 shM_0 rfl fI11 (by decide) k_1012 rfl ?_
  refine EV_aload_n 0 d_M_forward_24 rfl rfl ?_
  refine EV_get (j := 42) d_M_forward_25 shM_0 rfl fI11 (by decide) k_1010 rfl ?_
  obtain ⟨hi, H⟩ := H
  refine EV_iald d_M_forward_28 shM_25 hi ?_
  refine EV_istore_n (lv' := [(0, vR 0), (1, vI (m.2.1 19 ((m.1 18) - 1))), (2, vI (m.2.1 20 ((m.1 18) - 1)))]) [1, 2, 0] d_M_forward_29 rfl (by decide) rfl ?_
  refine EV_aload_n 0 d_M_forward_30 rfl rfl ?_
  refine EV_get (j := 24) d_M_forward_31 shM_0 rfl fI11 (by decide) k_992 rfl ?_
  refine EV_iload_n 1 d_M_forward_34 rfl rfl ?_
  obtain ⟨hi, H⟩ := H
  refine EV_iald d_M_forward_35 shM_14 hi ?_
  refine EV_bipush d_M_forward_36 (by decide +kernel) ⟨by decide, by decide⟩ ?_
  refine EV_icmp_ne (tgt := 78) d_M_forward_38 (by decide) (fun hc => ?_) (fun hc => ?_)
  · have H := H.1 hc
    refine EV_aload_n 0 d_M_forward_78 rfl rfl ?_
    refine EV_iload_n 1 d_M_forward_79 rfl rfl ?_
    refine EV_ldc2 (n := 1702195828) d_M_forward_80 k_1254 (by decide +kernel) (by decide) ?_
    refine EV_callV (as := [vI (m.2.1 19 ((m.1 18) - 1)), vL 1702195828]) (st := []) d_M_forward_83 k_1255 k_1257 kp_65 k_12 k_1258 shM_0 rfl pd_34 ⟨by decide, by decide, Nat.le_of_ble_eq_true rfl⟩ rfl (ct_M_isWordAlone H (fun r_1 H => ?_))
    refine EV_if_eq (tgt := 90) d_M_forward_86 (by decide) (fun hc => ?_) (fun hc => ?_)
    · have H := H.1 hc
      refine EV_aload_n 0 d_M_forward_90 rfl rfl ?_
      refine EV_iload_n 1 d_M_forward_91 rfl rfl ?_
      refine EV_ldc2 (n := 1818845542) d_M_forward_92 k_1259 (by decide +kernel) (by decide) ?_
      refine EV_callV (as := [vI (m.2.1 19 ((m.1 18) - 1)), vL 1818845542]) (st := []) d_M_forward_95 k_1255 k_1257 kp_65 k_12 k_1258 shM_0 rfl pd_34 ⟨by decide, by decide, Nat.le_of_ble_eq_true rfl⟩ rfl (ct_M_isWordAlone H (fun r_2 H => ?_))
      refine EV_if_eq (tgt := 105) d_M_forward_98 (by decide) (fun hc => ?_) (fun hc => ?_)
      · have H := H.1 hc
        refine EV_aload_n 0 d_M_forward_105 rfl rfl ?_
        refine EV_iload_n 1 d_M_forward_106 rfl rfl ?_
        refine EV_iload_n 2 d_M_forward_107 rfl rfl ?_
        refine EV_iconst d_M_forward_108 ⟨by decide, by decide⟩ ?_
        refine EV_callV (as := [vI (m.2.1 19 ((m.1 18) - 1)), vI (m.2.1 20 ((m.1 18) - 1)), vI (-1)]) (st := []) d_M_forward_109 k_1260 k_1262 kp_66 k_12 k_1263 shM_0 rfl pd_33 ⟨by decide, by decide, Nat.le_of_ble_eq_true rfl⟩ rfl (ct_M_candidate H (fun r_4 m_3 H => ?_))
        exact ct_M_forward_112 H hK
      · have H := H.2 hc
        refine EV_iconst d_M_forward_101 ⟨by decide, by decide⟩ ?_
        refine EV_goto (tgt := 112) d_M_forward_102 (by decide) ?_
        exact ct_M_forward_112 H hK
    · have H := H.2 hc
      exact EV_vret d_M_forward_89 rfl (hK _ H)
  · have H := H.2 hc
    refine EV_aload_n 0 d_M_forward_41 rfl rfl ?_
    refine EV_aload_n 0 d_M_forward_42 rfl rfl ?_
    refine EV_get (j := 39) d_M_forward_43 shM_0 rfl fI11 (by decide) k_1007 rfl ?_
    refine EV_aload_n 0 d_M_forward_46 rfl rfl ?_
    refine EV_get (j := 45) d_M_forward_47 shM_0 rfl fI11 (by decide) k_1013 rfl ?_
    refine EV_aload_n 0 d_M_forward_50 rfl rfl ?_
    refine EV_get (j := 42) d_M_forward_51 shM_0 rfl fI11 (by decide) k_1010 rfl ?_
    obtain ⟨hi, H⟩ := H
    refine EV_iald d_M_forward_54 shM_26 hi ?_
    refine EV_icmp_ge (tgt := 65) d_M_forward_55 (by decide) (fun hc => ?_) (fun hc => ?_)
    · have H := H.1 hc
      refine EV_aload_n 0 d_M_forward_65 rfl rfl ?_
      refine EV_get (j := 45) d_M_forward_66 shM_0 rfl fI11 (by decide) k_1013 rfl ?_
      refine EV_aload_n 0 d_M_forward_69 rfl rfl ?_
      refine EV_get (j := 42) d_M_forward_70 shM_0 rfl fI11 (by decide) k_1010 rfl ?_
      obtain ⟨hi, H⟩ := H
      refine EV_iald d_M_forward_73 shM_26 hi ?_
      refine EV_lv (lv' := []) [] rfl ?_
      exact ct_M_forward_74 H hK
    · have H := H.2 hc
      refine EV_aload_n 0 d_M_forward_58 rfl rfl ?_
      refine EV_get (j := 39) d_M_forward_59 shM_0 rfl fI11 (by decide) k_1007 rfl ?_
      refine EV_goto (tgt := 74) d_M_forward_62 (by decide) ?_
      refine EV_lv (lv' := []) [] rfl ?_
      exact ct_M_forward_74 H hK
theorem ct_M_strip_49 {l : Launch} {K : Ob → Prop} {K' : Option AV → List AC → Prop} {L0 : Ob → Prop} {m : Ob} (hL0 : ∀  (m : Ob), L0 m → EV l prog_13_method_36_code "PrunedSearchModel" 1 none 1 0 [(0, vR 0)] [] (shM m) K') (H : M_strip_49 L0 m K) (hK : ∀ (m' : Ob), K m' → K' none (shM m')) : EV l prog_13_method_36_code "PrunedSearchModel" 1 none 1 49 [(0, vR 0)] [] (shM m) K' := by
  refine EV_aload_n 0 d_M_strip_49 rfl rfl ?_
  refine EV_aload_n 0 d_M_strip_50 rfl rfl ?_
  refine EV_get (j := 42) d_M_strip_51 shM_0 rfl fI11 (by decide) k_1010 rfl ?_
  refine EV_iconst d_M_strip_54 ⟨by decide, by decide⟩ ?_
  obtain ⟨hr, H⟩ := H
  refine EV_isub d_M_strip_55 hr ?_
  refine EV_put (j := 42) d_M_strip_56 shM_0 rfl fI11 fO11 fN11 (by decide) k_1010 rfl rfl (fun ad => nf_int ad _) (Nat.le_of_ble_eq_true rfl) shM_0_42 ?_
  refine EV_goto (tgt := 0) d_M_strip_59 (by decide) ?_
  exact hL0 (sI m 18 ((m.1 18) - 1)) H
theorem ct_M_strip_0 {l : Launch} {K : Ob → Prop} {K' : Option AV → List AC → Prop} (hK : ∀ (m' : Ob), K m' → K' none (shM m')) : ∀ (n : Nat)  (m : Ob), M_strip_0 n m K → EV l prog_13_method_36_code "PrunedSearchModel" 1 none 1 0 [(0, vR 0)] [] (shM m) K' := by
  intro n
  induction n with
  | zero =>
    intro m H
    exact H.elim
  | succ n ih =>
    intro m H
    refine EV_aload_n 0 d_M_strip_0 rfl rfl ?_
    refine EV_get (j := 42) d_M_strip_1 shM_0 rfl fI11 (by decide) k_1010 rfl ?_
    refine EV_if_le (tgt := 62) d_M_strip_4 (by decide) (fun hc => ?_) (fun hc => ?_)
    · have H := H.1 hc
      exact EV_vret d_M_strip_62 rfl (hK _ H)
    · have H := H.2 hc
      refine EV_aload_n 0 d_M_strip_7 rfl rfl ?_
      refine EV_get (j := 24) d_M_strip_8 shM_0 rfl fI11 (by decide) k_992 rfl ?_
      refine EV_aload_n 0 d_M_strip_11 rfl rfl ?_
      refine EV_get (j := 43) d_M_strip_12 shM_0 rfl fI11 (by decide) k_1011 rfl ?_
      refine EV_aload_n 0 d_M_strip_15 rfl rfl ?_
      refine EV_get (j := 42) d_M_strip_16 shM_0 rfl fI11 (by decide) k_1010 rfl ?_
      refine EV_iconst d_M_strip_19 ⟨by decide, by decide⟩ ?_
      obtain ⟨hr, H⟩ := H
      refine EV_isub d_M_strip_20 hr ?_
      obtain ⟨hi, H⟩ := H
      refine EV_iald d_M_strip_21 shM_24 hi ?_
      obtain ⟨hi, H⟩ := H
      refine EV_iald d_M_strip_22 shM_14 hi ?_
      refine EV_bipush d_M_strip_23 (by decide +kernel) ⟨by decide, by decide⟩ ?_
      refine EV_icmp_eq (tgt := 49) d_M_strip_25 (by decide) (fun hc => ?_) (fun hc => ?_)
      · have H := H.1 hc
        exact ct_M_strip_49 (fun m' H => ih m' H) H hK
      · have H := H.2 hc
        refine EV_aload_n 0 d_M_strip_28 rfl rfl ?_
        refine EV_aload_n 0 d_M_strip_29 rfl rfl ?_
        refine EV_get (j := 43) d_M_strip_30 shM_0 rfl fI11 (by decide) k_1011 rfl ?_
        refine EV_aload_n 0 d_M_strip_33 rfl rfl ?_
        refine EV_get (j := 42) d_M_strip_34 shM_0 rfl fI11 (by decide) k_1010 rfl ?_
        refine EV_iconst d_M_strip_37 ⟨by decide, by decide⟩ ?_
        obtain ⟨hr, H⟩ := H
        refine EV_isub d_M_strip_38 hr ?_
        obtain ⟨hi, H⟩ := H
        refine EV_iald d_M_strip_39 shM_24 hi ?_
        refine EV_ldc2 (n := 1702195828) d_M_strip_40 k_1254 (by decide +kernel) (by decide) ?_
        refine EV_callV (as := [vI (m.2.1 19 ((m.1 18) - 1)), vL 1702195828]) (st := []) d_M_strip_43 k_1255 k_1257 kp_65 k_12 k_1258 shM_0 rfl pd_34 ⟨by decide, by decide, Nat.le_of_ble_eq_true rfl⟩ rfl (ct_M_isWordAlone H (fun r_1 H => ?_))
        refine EV_if_eq (tgt := 62) d_M_strip_46 (by decide) (fun hc => ?_) (fun hc => ?_)
        · have H := H.1 hc
          exact EV_vret d_M_strip_62 rfl (hK _ H)
        · have H := H.2 hc
          exact ct_M_strip_49 (fun m' H => ih m' H) H hK
theorem ct_M_strip {l : Launch} {m : Ob} {K : Ob → Prop} {K' : Option AV → List AC → Prop} (H : wp_M_strip m K) (hK : ∀ (m' : Ob), K m' → K' none (shM m')) : MT l ⟨"PrunedSearchModel", "strip", "()V"⟩ prog_13_method_36_code 1 none 1 [vR 0] (shM m) K' := by
  unfold wp_M_strip at H
  refine MT_of (lv := [(0, vR 0)]) rfl rfl (Nat.le_of_ble_eq_true rfl) rfl ?_
  obtain ⟨n, H⟩ := H
  exact ct_M_strip_0 hK n m H
theorem ct_M_again_92 {l : Launch} {K : Ob → Prop} {K' : Option AV → List AC → Prop} {x1 : Int} {m : Ob} (H : M_again_92 x1 m K) (hK : ∀ (m' : Ob), K m' → K' none (shM m')) : EV l prog_13_method_37_code "PrunedSearchModel" 4 none 5 92 [(0, vR 0), (1, vI x1)] [] (shM m) K' := by
  refine EV_aload_n 0 d_M_again_92 rfl rfl ?_
  refine EV_iload_n 1 d_M_again_93 rfl rfl ?_
  refine EV_put (j := 36) d_M_again_94 shM_0 rfl fI11 fO11 fN11 (by decide) k_1004 rfl rfl (fun ad => nf_int ad _) (Nat.le_of_ble_eq_true rfl) shM_0_36 ?_
  refine EV_aload_n 0 d_M_again_97 rfl rfl ?_
  refine EV_callV (as := []) (st := []) d_M_again_98 k_1308 k_1310 kp_78 k_12 k_1311 shM_0 rfl pd_35 ⟨by decide, by decide, Nat.le_of_ble_eq_true rfl⟩ rfl (ct_M_strip H (fun m_2 H => ?_))
  exact EV_vret d_M_again_101 rfl (hK _ H)
theorem ct_M_again_6 {l : Launch} {K : Ob → Prop} {K' : Option AV → List AC → Prop} (hK : ∀ (m' : Ob), K m' → K' none (shM m')) : ∀ (n : Nat) (x1 : Int) (x2 : Int) (m : Ob), M_again_6 n x1 x2 m K → EV l prog_13_method_37_code "PrunedSearchModel" 4 none 5 6 [(0, vR 0), (1, vI x1), (2, vI x2)] [] (shM m) K' := by
  intro n
  induction n with
  | zero =>
    intro x1 x2 m H
    exact H.elim
  | succ n ih =>
    intro x1 x2 m H
    refine EV_iload_n 2 d_M_again_6 rfl rfl ?_
    refine EV_iload_n 1 d_M_again_7 rfl rfl ?_
    refine EV_icmp_ge (tgt := 92) d_M_again_8 (by decide) (fun hc => ?_) (fun hc => ?_)
    · have H := H.1 hc
      refine EV_lv (lv' := [(0, vR 0), (1, vI x1)]) [0, 1] rfl ?_
      exact ct_M_again_92 H hK
    · have H := H.2 hc
      refine EV_aload_n 0 d_M_again_11 rfl rfl ?_
      refine EV_callV (as := []) (st := []) d_M_again_12 k_1308 k_1310 kp_78 k_12 k_1311 shM_0 rfl pd_35 ⟨by decide, by decide, Nat.le_of_ble_eq_true rfl⟩ rfl (ct_M_strip H (fun m_3 H => ?_))
      refine EV_aload_n 0 d_M_again_15 rfl rfl ?_
      refine EV_aload_n 0 d_M_again_16 rfl rfl ?_
      refine EV_get (j := 42) d_M_again_17 shM_0 rfl fI11 (by decide) k_1010 rfl ?_
      refine EV_iconst d_M_again_20 ⟨by decide, by decide⟩ ?_
      obtain ⟨hr, H⟩ := H
      refine EV_isub d_M_again_21 hr ?_
      refine EV_put (j := 42) d_M_again_22 shM_0 rfl fI11 fO11 fN11 (by decide) k_1010 rfl rfl (fun ad => nf_int ad _) (Nat.le_of_ble_eq_true rfl) shM_0_42 ?_
      refine EV_aload_n 0 d_M_again_25 rfl rfl ?_
      refine EV_iload_n 2 d_M_again_26 rfl rfl ?_
      refine EV_iconst d_M_again_27 ⟨by decide, by decide⟩ ?_
      obtain ⟨hr, H⟩ := H
      refine EV_iadd d_M_again_28 hr ?_
      refine EV_callV (as := [vI (x2 + 1)]) (st := []) d_M_again_29 k_1230 k_1232 kp_60 k_12 k_1233 shM_0 rfl pd_21 ⟨by decide, by decide, Nat.le_of_ble_eq_true rfl⟩ rfl (ct_M_clearFrame H (fun m_4 H => ?_))
      refine EV_aload_n 0 d_M_again_32 rfl rfl ?_
      refine EV_bipush d_M_again_33 (by decide +kernel) ⟨by decide, by decide⟩ ?_
      refine EV_aload_n 0 d_M_again_35 rfl rfl ?_
      refine EV_get (j := 37) d_M_again_36 shM_0 rfl fI11 (by decide) k_1005 rfl ?_
      refine EV_iload_n 2 d_M_again_39 rfl rfl ?_
      obtain ⟨hi, H⟩ := H
      refine EV_iald d_M_again_40 shM_20 hi ?_
      obtain ⟨hr, H⟩ := H
      refine EV_imul d_M_again_41 hr ?_
      refine EV_iload_n 2 d_M_again_42 rfl rfl ?_
      refine EV_iconst d_M_again_43 ⟨by decide, by decide⟩ ?_
      obtain ⟨hr, H⟩ := H
      refine EV_iadd d_M_again_44 hr ?_
      refine EV_aload_n 0 d_M_again_45 rfl rfl ?_
      refine EV_get (j := 43) d_M_again_46 shM_0 rfl fI11 (by decide) k_1011 rfl ?_
      refine EV_aload_n 0 d_M_again_49 rfl rfl ?_
      refine EV_get (j := 42) d_M_again_50 shM_0 rfl fI11 (by decide) k_1010 rfl ?_
      obtain ⟨hi, H⟩ := H
      refine EV_iald d_M_again_53 shM_24 hi ?_
      refine EV_aload_n 0 d_M_again_54 rfl rfl ?_
      refine EV_get (j := 44) d_M_again_55 shM_0 rfl fI11 (by decide) k_1012 rfl ?_
      refine EV_aload_n 0 d_M_again_58 rfl rfl ?_
      refine EV_get (j := 42) d_M_again_59 shM_0 rfl fI11 (by decide) k_1010 rfl ?_
      obtain ⟨hi, H⟩ := H
      refine EV_iald d_M_again_62 shM_25 hi ?_
      refine EV_callV (as := [vI (40 * (m_4.2.1 15 x2)), vI (x2 + 1), vI (m_4.2.1 19 (m_4.1 18)), vI (m_4.2.1 20 (m_4.1 18))]) (st := []) d_M_again_63 k_1272 k_1274 kp_69 k_12 k_1275 shM_0 rfl pd_31 ⟨by decide, by decide, Nat.le_of_ble_eq_true rfl⟩ rfl (ct_M_equalize H (fun r_6 m_5 H => ?_))
      refine EV_istore_n (lv' := [(0, vR 0), (1, vI x1), (2, vI x2), (3, vI r_6)]) [1, 2, 3, 0] d_M_again_66 rfl (by decide) rfl ?_
      refine EV_aload_n 0 d_M_again_67 rfl rfl ?_
      refine EV_aload_n 0 d_M_again_68 rfl rfl ?_
      refine EV_get (j := 37) d_M_again_69 shM_0 rfl fI11 (by decide) k_1005 rfl ?_
      refine EV_iload_n 2 d_M_again_72 rfl rfl ?_
      obtain ⟨hi, H⟩ := H
      refine EV_iald d_M_again_73 shM_20 hi ?_
      refine EV_iload_n 2 d_M_again_74 rfl rfl ?_
      refine EV_iconst d_M_again_75 ⟨by decide, by decide⟩ ?_
      obtain ⟨hr, H⟩ := H
      refine EV_iadd d_M_again_76 hr ?_
      refine EV_aload_n 0 d_M_again_77 rfl rfl ?_
      refine EV_get (j := 38) d_M_again_78 shM_0 rfl fI11 (by decide) k_1006 rfl ?_
      refine EV_iload_n 2 d_M_again_81 rfl rfl ?_
      obtain ⟨hi, H⟩ := H
      refine EV_iald d_M_again_82 shM_21 hi ?_
      refine EV_callV (as := [vI (m_5.2.1 15 x2), vI (x2 + 1), vI (m_5.2.1 16 x2)]) (st := []) d_M_again_83 k_1234 k_1236 kp_61 k_12 k_1237 shM_0 rfl pd_20 ⟨by decide, by decide, Nat.le_of_ble_eq_true rfl⟩ rfl (ct_M_prepend H (fun m_7 H => ?_))
      obtain ⟨hr, H⟩ := H
      refine EV_iinc (lv' := [(0, vR 0), (1, vI x1), (2, vI (x2 + 1)), (3, vI r_6)]) 2 [1, 2, 0, 3] d_M_again_86 rfl (by decide) hr rfl ?_
      refine EV_goto (tgt := 6) d_M_again_89 (by decide) ?_
      refine EV_lv (lv' := [(0, vR 0), (1, vI x1), (2, vI (x2 + 1))]) [0, 1, 2] rfl ?_
      exact ih x1 (x2 + 1) m_7 H
theorem ct_M_again {l : Launch} {m : Ob} {x1 : Int} {K : Ob → Prop} {K' : Option AV → List AC → Prop} (H : wp_M_again x1 m K) (hK : ∀ (m' : Ob), K m' → K' none (shM m')) : MT l ⟨"PrunedSearchModel", "again", "(I)V"⟩ prog_13_method_37_code 4 none 5 [vR 0, vI x1] (shM m) K' := by
  unfold wp_M_again at H
  refine MT_of (lv := [(0, vR 0), (1, vI x1)]) rfl rfl (Nat.le_of_ble_eq_true rfl) rfl ?_
  refine EV_aload_n 0 d_M_again_0 rfl rfl ?_
  refine EV_callV (as := []) (st := []) d_M_again_1 k_1226 k_1228 kp_59 k_12 k_1229 shM_0 rfl pd_22 ⟨by decide, by decide, Nat.le_of_ble_eq_true rfl⟩ rfl (ct_M_begin H (fun m_1 H => ?_))
  refine EV_iconst d_M_again_4 ⟨by decide, by decide⟩ ?_
  refine EV_istore_n (lv' := [(0, vR 0), (1, vI x1), (2, vI 0)]) [1, 2, 0] d_M_again_5 rfl (by decide) rfl ?_
  obtain ⟨n, H⟩ := H
  exact ct_M_again_6 hK n x1 0 m_1 H
theorem ct_M_back_97 {l : Launch} {K : Ob → Prop} {K' : Option AV → List AC → Prop} {x1 : Int} {x2 : Int} {s0 : Int} {m : Ob} (H : M_back_97 x1 x2 s0 m K) (hK : ∀ (m' : Ob), K m' → K' none (shM m')) : EV l prog_13_method_43_code "PrunedSearchModel" 3 none 6 97 [(0, vR 0), (1, vI x1), (2, vI x2)] [vI s0, vR 0] (shM m) K' := by
  refine EV_put (j := 39) d_M_back_97 shM_0 rfl fI11 fO11 fN11 (by decide) k_1007 rfl rfl (fun ad => nf_int ad _) (Nat.le_of_ble_eq_true rfl) shM_0_39 ?_
  refine EV_aload_n 0 d_M_back_100 rfl rfl ?_
  refine EV_iload_n 2 d_M_back_101 rfl rfl ?_
  refine EV_iload_n 1 d_M_back_102 rfl rfl ?_
  refine EV_callV (as := [vI x2, vI x1]) (st := []) d_M_back_103 k_1268 k_1270 kp_68 k_12 k_1271 shM_0 rfl pd_32 ⟨by decide, by decide, Nat.le_of_ble_eq_true rfl⟩ rfl (ct_M_resolve H (fun m_6 H => ?_))
  exact EV_vret d_M_back_106 rfl (hK _ H)
theorem ct_M_back {l : Launch} {m : Ob} {K : Ob → Prop} {K' : Option AV → List AC → Prop} (H : wp_M_back m K) (hK : ∀ (m' : Ob), K m' → K' none (shM m')) : MT l ⟨"PrunedSearchModel", "back", "()V"⟩ prog_13_method_43_code 3 none 6 [vR 0] (shM m) K' := by
  unfold wp_M_back at H
  refine MT_of (lv := [(0, vR 0)]) rfl rfl (Nat.le_of_ble_eq_true rfl) rfl ?_
  refine EV_aload_n 0 d_M_back_0 rfl rfl ?_
  refine EV_get (j := 39) d_M_back_1 shM_0 rfl fI11 (by decide) k_1007 rfl ?_
  refine EV_iconst d_M_back_4 ⟨by decide, by decide⟩ ?_
  obtain ⟨hr, H⟩ := H
  refine EV_isub d_M_back_5 hr ?_
  refine EV_istore_n (lv' := [(0, vR 0), (1, vI ((m.1 17) - 1))]) [1, 0] d_M_back_6 rfl (by decide) rfl ?_
  refine EV_aload_n 0 d_M_back_7 rfl rfl ?_
  refine EV_aload_n 0 d_M_back_8 rfl rfl ?_
  refine EV_get (j := 40) d_M_back_9 shM_0 rfl fI11 (by decide) k_1008 rfl ?_
  refine EV_iload_n 1 d_M_back_12 rfl rfl ?_
  obtain ⟨hi, H⟩ := H
  refine EV_iald d_M_back_13 shM_22 hi ?_
  refine EV_callV (as := [vI (m.2.1 17 ((m.1 17) - 1))]) (st := []) d_M_back_14 k_1304 k_1306 kp_77 k_12 k_1307 shM_0 rfl pd_36 ⟨by decide, by decide, Nat.le_of_ble_eq_true rfl⟩ rfl (ct_M_again H (fun m_1 H => ?_))
  refine EV_aload_n 0 d_M_back_17 rfl rfl ?_
  refine EV_aload_n 0 d_M_back_18 rfl rfl ?_
  refine EV_get (j := 42) d_M_back_19 shM_0 rfl fI11 (by decide) k_1010 rfl ?_
  refine EV_iconst d_M_back_22 ⟨by decide, by decide⟩ ?_
  obtain ⟨hr, H⟩ := H
  refine EV_isub d_M_back_23 hr ?_
  refine EV_put (j := 42) d_M_back_24 shM_0 rfl fI11 fO11 fN11 (by decide) k_1010 rfl rfl (fun ad => nf_int ad _) (Nat.le_of_ble_eq_true rfl) shM_0_42 ?_
  refine EV_aload_n 0 d_M_back_27 rfl rfl ?_
  refine EV_aload_n 0 d_M_back_28 rfl rfl ?_
  refine EV_get (j := 43) d_M_back_29 shM_0 rfl fI11 (by decide) k_1011 rfl ?_
  refine EV_aload_n 0 d_M_back_32 rfl rfl ?_
  refine EV_get (j := 42) d_M_back_33 shM_0 rfl fI11 (by decide) k_1010 rfl ?_
  obtain ⟨hi, H⟩ := H
  refine EV_iald d_M_back_36 shM_24 hi ?_
  refine EV_aload_n 0 d_M_back_37 rfl rfl ?_
  refine EV_get (j := 44) d_M_back_38 shM_0 rfl fI11 (by decide) k_1012 rfl ?_
  refine EV_aload_n 0 d_M_back_41 rfl rfl ?_
  refine EV_get (j := 42) d_M_back_42 shM_0 rfl fI11 (by decide) k_1010 rfl ?_
  obtain ⟨hi, H⟩ := H
  refine EV_iald d_M_back_45 shM_25 hi ?_
  refine EV_aload_n 0 d_M_back_46 rfl rfl ?_
  refine EV_get (j := 41) d_M_back_47 shM_0 rfl fI11 (by decide) k_1009 rfl ?_
  refine EV_iload_n 1 d_M_back_50 rfl rfl ?_
  obtain ⟨hi, H⟩ := H
  refine EV_iald d_M_back_51 shM_23 hi ?_
  refine EV_callV (as := [vI (m_1.2.1 19 ((m_1.1 18) - 1)), vI (m_1.2.1 20 ((m_1.1 18) - 1)), vI (m_1.2.1 18 ((m.1 17) - 1))]) (st := []) d_M_back_52 k_1260 k_1262 kp_66 k_12 k_1263 shM_0 rfl pd_33 ⟨by decide, by decide, Nat.le_of_ble_eq_true rfl⟩ rfl (ct_M_candidate H (fun r_3 m_2 H => ?_))
  refine EV_istore_n (lv' := [(0, vR 0), (1, vI ((m.1 17) - 1)), (2, vI r_3)]) [1, 2, 0] d_M_back_55 rfl (by decide) rfl ?_
  refine EV_aload_n 0 d_M_back_56 rfl rfl ?_
  refine EV_get (j := 41) d_M_back_57 shM_0 rfl fI11 (by decide) k_1009 rfl ?_
  refine EV_iload_n 1 d_M_back_60 rfl rfl ?_
  refine EV_iload_n 2 d_M_back_61 rfl rfl ?_
  obtain ⟨hi, H⟩ := H
  refine EV_iast d_M_back_62 shM_23 hi shM_23_s ?_
  refine EV_aload_n 0 d_M_back_63 rfl rfl ?_
  refine EV_aload_n 0 d_M_back_64 rfl rfl ?_
  refine EV_aload_n 0 d_M_back_65 rfl rfl ?_
  refine EV_get (j := 43) d_M_back_66 shM_0 rfl fI11 (by decide) k_1011 rfl ?_
  refine EV_aload_n 0 d_M_back_69 rfl rfl ?_
  refine EV_get (j := 42) d_M_back_70 shM_0 rfl fI11 (by decide) k_1010 rfl ?_
  obtain ⟨hi, H⟩ := H
  refine EV_iald d_M_back_73 shM_24 hi ?_
  refine EV_aload_n 0 d_M_back_74 rfl rfl ?_
  refine EV_get (j := 44) d_M_back_75 shM_0 rfl fI11 (by decide) k_1012 rfl ?_
  refine EV_aload_n 0 d_M_back_78 rfl rfl ?_
  refine EV_get (j := 42) d_M_back_79 shM_0 rfl fI11 (by decide) k_1010 rfl ?_
  obtain ⟨hi, H⟩ := H
  refine EV_iald d_M_back_82 shM_25 hi ?_
  refine EV_iload_n 2 d_M_back_83 rfl rfl ?_
  refine EV_callV (as := [vI (m_2.2.1 19 (m_2.1 18)), vI (m_2.2.1 20 (m_2.1 18)), vI r_3]) (st := [vR 0]) d_M_back_84 k_1260 k_1262 kp_66 k_12 k_1263 shM_0 rfl pd_33 ⟨by decide, by decide, Nat.le_of_ble_eq_true rfl⟩ rfl (ct_M_candidate H (fun r_5 m_4 H => ?_))
  refine EV_if_ge (tgt := 94) d_M_back_87 (by decide) (fun hc => ?_) (fun hc => ?_)
  · have H := H.1 hc
    refine EV_iload_n 1 d_M_back_94 rfl rfl ?_
    refine EV_iconst d_M_back_95 ⟨by decide, by decide⟩ ?_
    obtain ⟨hr, H⟩ := H
    refine EV_iadd d_M_back_96 hr ?_
    exact ct_M_back_97 H hK
  · have H := H.2 hc
    refine EV_iload_n 1 d_M_back_90 rfl rfl ?_
    refine EV_goto (tgt := 97) d_M_back_91 (by decide) ?_
    exact ct_M_back_97 H hK
theorem ct_M_step_42 {l : Launch} {K : Ob → Prop} {K' : Option AV → List AC → Prop} {m : Ob} (H : M_step_42 m K) (hK : ∀ (m' : Ob), K m' → K' none (shM m')) : EV l prog_13_method_44_code "PrunedSearchModel" 1 none 7 42 [(0, vR 0)] [] (shM m) K' := by
  refine EV_aload_n 0 d_M_step_42 rfl rfl ?_
  refine EV_get (j := 33) d_M_step_43 shM_0 rfl fI11 (by decide) k_1001 rfl ?_
  refine EV_iconst d_M_step_46 ⟨by decide, by decide⟩ ?_
  refine EV_icmp_ne (tgt := 62) d_M_step_47 (by decide) (fun hc => ?_) (fun hc => ?_)
  · have H := H.1 hc
    exact EV_vret d_M_step_62 rfl (hK _ H)
  · have H := H.2 hc
    refine EV_aload_n 0 d_M_step_50 rfl rfl ?_
    refine EV_get (j := 39) d_M_step_51 shM_0 rfl fI11 (by decide) k_1007 rfl ?_
    refine EV_if_ne (tgt := 62) d_M_step_54 (by decide) (fun hc => ?_) (fun hc => ?_)
    · have H := H.1 hc
      exact EV_vret d_M_step_62 rfl (hK _ H)
    · have H := H.2 hc
      refine EV_aload_n 0 d_M_step_57 rfl rfl ?_
      refine EV_iconst d_M_step_58 ⟨by decide, by decide⟩ ?_
      refine EV_callV (as := [vI 0]) (st := []) d_M_step_59 k_1242 k_1244 kp_62 k_12 k_1245 shM_0 rfl pd_29 ⟨by decide, by decide, Nat.le_of_ble_eq_true rfl⟩ rfl (ct_M_end H (fun m_2 H => ?_))
      exact EV_vret d_M_step_62 rfl (hK _ H)
theorem ct_M_step_19 {l : Launch} {K : Ob → Prop} {K' : Option AV → List AC → Prop} {m : Ob} (H : M_step_19 m K) (hK : ∀ (m' : Ob), K m' → K' none (shM m')) : EV l prog_13_method_44_code "PrunedSearchModel" 1 none 7 19 [(0, vR 0)] [] (shM m) K' := by
  refine EV_aload_n 0 d_M_step_19 rfl rfl ?_
  refine EV_get (j := 33) d_M_step_20 shM_0 rfl fI11 (by decide) k_1001 rfl ?_
  refine EV_iconst d_M_step_23 ⟨by decide, by decide⟩ ?_
  refine EV_icmp_ne (tgt := 42) d_M_step_24 (by decide) (fun hc => ?_) (fun hc => ?_)
  · have H := H.1 hc
    exact ct_M_step_42 H hK
  · have H := H.2 hc
    refine EV_aload_n 0 d_M_step_27 rfl rfl ?_
    refine EV_get (j := 42) d_M_step_28 shM_0 rfl fI11 (by decide) k_1010 rfl ?_
    refine EV_if_ne (tgt := 42) d_M_step_31 (by decide) (fun hc => ?_) (fun hc => ?_)
    · have H := H.1 hc
      exact ct_M_step_42 H hK
    · have H := H.2 hc
      refine EV_aload_n 0 d_M_step_34 rfl rfl ?_
      refine EV_iconst d_M_step_35 ⟨by decide, by decide⟩ ?_
      refine EV_put (j := 33) d_M_step_36 shM_0 rfl fI11 fO11 fN11 (by decide) k_1001 rfl rfl (fun ad => nf_int ad _) (Nat.le_of_ble_eq_true rfl) shM_0_33 ?_
      refine EV_goto (tgt := 62) d_M_step_39 (by decide) ?_
      exact EV_vret d_M_step_62 rfl (hK _ H)
theorem ct_M_step {l : Launch} {m : Ob} {K : Ob → Prop} {K' : Option AV → List AC → Prop} (H : wp_M_step m K) (hK : ∀ (m' : Ob), K m' → K' none (shM m')) : MT l ⟨"PrunedSearchModel", "step", "()V"⟩ prog_13_method_44_code 1 none 7 [vR 0] (shM m) K' := by
  unfold wp_M_step at H
  refine MT_of (lv := [(0, vR 0)]) rfl rfl (Nat.le_of_ble_eq_true rfl) rfl ?_
  refine EV_aload_n 0 d_M_step_0 rfl rfl ?_
  refine EV_get (j := 33) d_M_step_1 shM_0 rfl fI11 (by decide) k_1001 rfl ?_
  refine EV_iconst d_M_step_4 ⟨by decide, by decide⟩ ?_
  refine EV_icmp_ne (tgt := 15) d_M_step_5 (by decide) (fun hc => ?_) (fun hc => ?_)
  · have H := H.1 hc
    refine EV_aload_n 0 d_M_step_15 rfl rfl ?_
    refine EV_callV (as := []) (st := []) d_M_step_16 k_1300 k_1302 kp_76 k_12 k_1303 shM_0 rfl pd_37 ⟨by decide, by decide, Nat.le_of_ble_eq_true rfl⟩ rfl (ct_M_back H (fun m_1 H => ?_))
    exact ct_M_step_19 H hK
  · have H := H.2 hc
    refine EV_aload_n 0 d_M_step_8 rfl rfl ?_
    refine EV_callV (as := []) (st := []) d_M_step_9 k_1250 k_1252 kp_64 k_12 k_1253 shM_0 rfl pd_38 ⟨by decide, by decide, Nat.le_of_ble_eq_true rfl⟩ rfl (ct_M_forward H (fun m_3 H => ?_))
    refine EV_goto (tgt := 19) d_M_step_12 (by decide) ?_
    exact ct_M_step_19 H hK
theorem ct_M_run_75 {l : Launch} {K : Int → Ob → Prop} {K' : Option AV → List AC → Prop} {m : Ob} (H : M_run_75 m K) (hK : ∀ (r : Int) (m' : Ob), K r m' → K' (some (vI r)) (shM m')) : EV l prog_13_method_45_code "PrunedSearchModel" 3 (some .int) 8 75 [(0, vR 0)] [] (shM m) K' := by
  refine EV_aload_n 0 d_M_run_75 rfl rfl ?_
  refine EV_get (j := 33) d_M_run_76 shM_0 rfl fI11 (by decide) k_1001 rfl ?_
  refine EV_iconst d_M_run_79 ⟨by decide, by decide⟩ ?_
  refine EV_icmp_ne (tgt := 90) d_M_run_80 (by decide) (fun hc => ?_) (fun hc => ?_)
  · have H := H.1 hc
    refine EV_iconst d_M_run_90 ⟨by decide, by decide⟩ ?_
    exact EV_iret d_M_run_91 rfl (nw_int _) (hK _ _ H)
  · have H := H.2 hc
    refine EV_aload_n 0 d_M_run_83 rfl rfl ?_
    refine EV_get (j := 34) d_M_run_84 shM_0 rfl fI11 (by decide) k_1002 rfl ?_
    refine EV_goto (tgt := 91) d_M_run_87 (by decide) ?_
    exact EV_iret d_M_run_91 rfl (nw_int _) (hK _ _ H)
theorem ct_M_run_42 {l : Launch} {K : Int → Ob → Prop} {K' : Option AV → List AC → Prop} (hK : ∀ (r : Int) (m' : Ob), K r m' → K' (some (vI r)) (shM m')) : ∀ (n : Nat) (x1 : Int) (x2 : Int) (m : Ob), M_run_42 n x1 x2 m K → EV l prog_13_method_45_code "PrunedSearchModel" 3 (some .int) 8 42 [(0, vR 0), (1, vI x1), (2, vI x2)] [] (shM m) K' := by
  intro n
  induction n with
  | zero =>
    intro x1 x2 m H
    exact H.elim
  | succ n ih =>
    intro x1 x2 m H
    refine EV_iload_n 2 d_M_run_42 rfl rfl ?_
    refine EV_iload_n 1 d_M_run_43 rfl rfl ?_
    refine EV_icmp_ge (tgt := 75) d_M_run_44 (by decide) (fun hc => ?_) (fun hc => ?_)
    · have H := H.1 hc
      refine EV_lv (lv' := [(0, vR 0)]) [0] rfl ?_
      exact ct_M_run_75 H hK
    · have H := H.2 hc
      refine EV_aload_n 0 d_M_run_47 rfl rfl ?_
      refine EV_get (j := 33) d_M_run_48 shM_0 rfl fI11 (by decide) k_1001 rfl ?_
      refine EV_iconst d_M_run_51 ⟨by decide, by decide⟩ ?_
      refine EV_icmp_eq (tgt := 75) d_M_run_52 (by decide) (fun hc => ?_) (fun hc => ?_)
      · have H := H.1 hc
        refine EV_lv (lv' := [(0, vR 0)]) [0] rfl ?_
        exact ct_M_run_75 H hK
      · have H := H.2 hc
        refine EV_aload_n 0 d_M_run_55 rfl rfl ?_
        refine EV_callV (as := []) (st := []) d_M_run_56 k_1246 k_1248 kp_63 k_12 k_1249 shM_0 rfl pd_39 ⟨by decide, by decide, Nat.le_of_ble_eq_true rfl⟩ rfl (ct_M_step H (fun m_1 H => ?_))
        refine EV_aload_n 0 d_M_run_59 rfl rfl ?_
        refine EV_get (j := 33) d_M_run_60 shM_0 rfl fI11 (by decide) k_1001 rfl ?_
        refine EV_iconst d_M_run_63 ⟨by decide, by decide⟩ ?_
        refine EV_icmp_ne (tgt := 69) d_M_run_64 (by decide) (fun hc => ?_) (fun hc => ?_)
        · have H := H.1 hc
          obtain ⟨hr, H⟩ := H
          refine EV_iinc (lv' := [(0, vR 0), (1, vI x1), (2, vI (x2 + 1))]) 2 [1, 2, 0] d_M_run_69 rfl (by decide) hr rfl ?_
          refine EV_goto (tgt := 42) d_M_run_72 (by decide) ?_
          exact ih x1 (x2 + 1) m_1 H
        · have H := H.2 hc
          refine EV_iconst d_M_run_67 ⟨by decide, by decide⟩ ?_
          exact EV_iret d_M_run_68 rfl (nw_int _) (hK _ _ H)
theorem ct_M_run_40 {l : Launch} {K : Int → Ob → Prop} {K' : Option AV → List AC → Prop} {x1 : Int} {m : Ob} (H : M_run_40 x1 m K) (hK : ∀ (r : Int) (m' : Ob), K r m' → K' (some (vI r)) (shM m')) : EV l prog_13_method_45_code "PrunedSearchModel" 3 (some .int) 8 40 [(0, vR 0), (1, vI x1)] [] (shM m) K' := by
  refine EV_iconst d_M_run_40 ⟨by decide, by decide⟩ ?_
  refine EV_istore_n (lv' := [(0, vR 0), (1, vI x1), (2, vI 0)]) [1, 2, 0] d_M_run_41 rfl (by decide) rfl ?_
  obtain ⟨n, H⟩ := H
  exact ct_M_run_42 hK n x1 0 m H
theorem ct_M_run {l : Launch} {m : Ob} {x1 : Int} {K : Int → Ob → Prop} {K' : Option AV → List AC → Prop} (H : wp_M_run x1 m K) (hK : ∀ (r : Int) (m' : Ob), K r m' → K' (some (vI r)) (shM m')) : MT l ⟨"PrunedSearchModel", "run", "(I)I"⟩ prog_13_method_45_code 3 (some .int) 8 [vR 0, vI x1] (shM m) K' := by
  unfold wp_M_run at H
  refine MT_of (lv := [(0, vR 0), (1, vI x1)]) rfl rfl (Nat.le_of_ble_eq_true rfl) rfl ?_
  refine EV_aload_n 0 d_M_run_0 rfl rfl ?_
  refine EV_get (j := 33) d_M_run_1 shM_0 rfl fI11 (by decide) k_1001 rfl ?_
  refine EV_if_eq (tgt := 18) d_M_run_4 (by decide) (fun hc => ?_) (fun hc => ?_)
  · have H := H.1 hc
    refine EV_iconst d_M_run_18 ⟨by decide, by decide⟩ ?_
    exact EV_iret d_M_run_19 rfl (nw_int _) (hK _ _ H)
  · have H := H.2 hc
    refine EV_iload_n 1 d_M_run_7 rfl rfl ?_
    refine EV_iconst d_M_run_8 ⟨by decide, by decide⟩ ?_
    refine EV_icmp_lt (tgt := 18) d_M_run_9 (by decide) (fun hc => ?_) (fun hc => ?_)
    · have H := H.1 hc
      refine EV_iconst d_M_run_18 ⟨by decide, by decide⟩ ?_
      exact EV_iret d_M_run_19 rfl (nw_int _) (hK _ _ H)
    · have H := H.2 hc
      refine EV_iload_n 1 d_M_run_12 rfl rfl ?_
      refine EV_bipush d_M_run_13 (by decide +kernel) ⟨by decide, by decide⟩ ?_
      refine EV_icmp_le (tgt := 20) d_M_run_15 (by decide) (fun hc => ?_) (fun hc => ?_)
      · have H := H.1 hc
        refine EV_aload_n 0 d_M_run_20 rfl rfl ?_
        refine EV_get (j := 33) d_M_run_21 shM_0 rfl fI11 (by decide) k_1001 rfl ?_
        refine EV_iconst d_M_run_24 ⟨by decide, by decide⟩ ?_
        refine EV_icmp_ne (tgt := 40) d_M_run_25 (by decide) (fun hc => ?_) (fun hc => ?_)
        · have H := H.1 hc
          exact ct_M_run_40 H hK
        · have H := H.2 hc
          refine EV_aload_n 0 d_M_run_28 rfl rfl ?_
          refine EV_get (j := 39) d_M_run_29 shM_0 rfl fI11 (by decide) k_1007 rfl ?_
          refine EV_if_ne (tgt := 40) d_M_run_32 (by decide) (fun hc => ?_) (fun hc => ?_)
          · have H := H.1 hc
            exact ct_M_run_40 H hK
          · have H := H.2 hc
            refine EV_aload_n 0 d_M_run_35 rfl rfl ?_
            refine EV_iconst d_M_run_36 ⟨by decide, by decide⟩ ?_
            refine EV_callV (as := [vI 0]) (st := []) d_M_run_37 k_1242 k_1244 kp_62 k_12 k_1245 shM_0 rfl pd_29 ⟨by decide, by decide, Nat.le_of_ble_eq_true rfl⟩ rfl (ct_M_end H (fun m_2 H => ?_))
            exact ct_M_run_40 H hK
      · have H := H.2 hc
        refine EV_iconst d_M_run_18 ⟨by decide, by decide⟩ ?_
        exact EV_iret d_M_run_19 rfl (nw_int _) (hK _ _ H)
theorem ct_M_later {l : Launch} {m : Ob} {x1 : Int} {x2 : Int} {x3 : Int} {x4 : Int} {K : Int → Ob → Prop} {K' : Option AV → List AC → Prop} (H : wp_M_later x1 x2 x3 x4 m K) (hK : ∀ (r : Int) (m' : Ob), K r m' → K' (some (vI r)) (shM m')) : MT l ⟨"PrunedSearchModel", "later", "(IIII)I"⟩ prog_13_method_49_code 5 (some .int) 0 [vR 0, vI x1, vI x2, vI x3, vI x4] (shM m) K' := by
  unfold wp_M_later at H
  refine MT_of (lv := [(0, vR 0), (1, vI x1), (2, vI x2), (3, vI x3), (4, vI x4)]) rfl rfl (Nat.le_of_ble_eq_true rfl) rfl ?_
  refine EV_aload_n 0 d_M_later_0 rfl rfl ?_
  refine EV_get (j := 50) d_M_later_1 shM_0 rfl fI11 (by decide) k_1018 rfl ?_
  refine EV_iload_n 1 d_M_later_4 rfl rfl ?_
  refine EV_iload_n 2 d_M_later_5 rfl rfl ?_
  obtain ⟨hi, H⟩ := H
  refine EV_iast d_M_later_6 shM_29 hi shM_29_s ?_
  refine EV_aload_n 0 d_M_later_7 rfl rfl ?_
  refine EV_get (j := 50) d_M_later_8 shM_0 rfl fI11 (by decide) k_1018 rfl ?_
  refine EV_iload_n 1 d_M_later_11 rfl rfl ?_
  refine EV_iconst d_M_later_12 ⟨by decide, by decide⟩ ?_
  obtain ⟨hr, H⟩ := H
  refine EV_iadd d_M_later_13 hr ?_
  refine EV_iload_n 3 d_M_later_14 rfl rfl ?_
  obtain ⟨hi, H⟩ := H
  refine EV_iast d_M_later_15 shM_29 hi shM_29_s ?_
  refine EV_aload_n 0 d_M_later_16 rfl rfl ?_
  refine EV_get (j := 50) d_M_later_17 shM_0 rfl fI11 (by decide) k_1018 rfl ?_
  refine EV_iload_n 1 d_M_later_20 rfl rfl ?_
  refine EV_iconst d_M_later_21 ⟨by decide, by decide⟩ ?_
  obtain ⟨hr, H⟩ := H
  refine EV_iadd d_M_later_22 hr ?_
  refine EV_iload 4 d_M_later_23 rfl ?_
  obtain ⟨hi, H⟩ := H
  refine EV_iast d_M_later_25 shM_29 hi shM_29_s ?_
  refine EV_iload_n 1 d_M_later_26 rfl rfl ?_
  refine EV_iconst d_M_later_27 ⟨by decide, by decide⟩ ?_
  obtain ⟨hr, H⟩ := H
  refine EV_iadd d_M_later_28 hr ?_
  exact EV_iret d_M_later_29 rfl (nw_int _) (hK _ _ H)
theorem ct_M_put {l : Launch} {m : Ob} {x1 : Int} {K : Ob → Prop} {K' : Option AV → List AC → Prop} (H : wp_M_put x1 m K) (hK : ∀ (m' : Ob), K m' → K' none (shM m')) : MT l ⟨"PrunedSearchModel", "put", "(I)V"⟩ prog_13_method_46_code 2 none 0 [vR 0, vI x1] (shM m) K' := by
  unfold wp_M_put at H
  refine MT_of (lv := [(0, vR 0), (1, vI x1)]) rfl rfl (Nat.le_of_ble_eq_true rfl) rfl ?_
  refine EV_aload_n 0 d_M_put_0 rfl rfl ?_
  refine EV_get (j := 51) d_M_put_1 shM_0 rfl fI11 (by decide) k_1019 rfl ?_
  refine EV_aload_n 0 d_M_put_4 rfl rfl ?_
  refine EV_get (j := 52) d_M_put_5 shM_0 rfl fI11 (by decide) k_1020 rfl ?_
  refine EV_iload_n 1 d_M_put_8 rfl rfl ?_
  obtain ⟨hi, H⟩ := H
  refine EV_iast d_M_put_9 shM_30 hi shM_30_s ?_
  refine EV_aload_n 0 d_M_put_10 rfl rfl ?_
  refine EV_aload_n 0 d_M_put_11 rfl rfl ?_
  refine EV_get (j := 52) d_M_put_12 shM_0 rfl fI11 (by decide) k_1020 rfl ?_
  refine EV_iconst d_M_put_15 ⟨by decide, by decide⟩ ?_
  obtain ⟨hr, H⟩ := H
  refine EV_iadd d_M_put_16 hr ?_
  refine EV_put (j := 52) d_M_put_17 shM_0 rfl fI11 fO11 fN11 (by decide) k_1020 rfl rfl (fun ad => nf_int ad _) (Nat.le_of_ble_eq_true rfl) shM_0_52 ?_
  exact EV_vret d_M_put_20 rfl (hK _ H)
theorem ct_M_putVariable_92 {l : Launch} {K : Ob → Prop} {K' : Option AV → List AC → Prop} {x1 : Int} {m : Ob} (H : M_putVariable_92 x1 m K) (hK : ∀ (m' : Ob), K m' → K' none (shM m')) : EV l prog_13_method_48_code "PrunedSearchModel" 2 none 1 92 [(0, vR 0), (1, vI x1)] [] (shM m) K' := by
  refine EV_aload_n 0 d_M_putVariable_92 rfl rfl ?_
  refine EV_bipush d_M_putVariable_93 (by decide +kernel) ⟨by decide, by decide⟩ ?_
  refine EV_aload_n 0 d_M_putVariable_95 rfl rfl ?_
  refine EV_get (j := 53) d_M_putVariable_96 shM_0 rfl fI11 (by decide) k_1021 rfl ?_
  refine EV_iload_n 1 d_M_putVariable_99 rfl rfl ?_
  obtain ⟨hi, H⟩ := H
  refine EV_iald d_M_putVariable_100 shM_31 hi ?_
  refine EV_bipush d_M_putVariable_101 (by decide +kernel) ⟨by decide, by decide⟩ ?_
  obtain ⟨h0, H⟩ := H
  refine EV_irem d_M_putVariable_103 h0 (by decide) ?_
  obtain ⟨hr, H⟩ := H
  refine EV_iadd d_M_putVariable_104 hr ?_
  refine EV_callV (as := [vI (48 + ((m.2.1 26 x1) % 10))]) (st := []) d_M_putVariable_105 k_1324 k_1326 kp_81 k_12 k_1327 shM_0 rfl pd_40 ⟨by decide, by decide, Nat.le_of_ble_eq_true rfl⟩ rfl (ct_M_put H (fun m_2 H => ?_))
  exact EV_vret d_M_putVariable_108 rfl (hK _ H)
theorem ct_M_putVariable_62 {l : Launch} {K : Ob → Prop} {K' : Option AV → List AC → Prop} {x1 : Int} {m : Ob} (H : M_putVariable_62 x1 m K) (hK : ∀ (m' : Ob), K m' → K' none (shM m')) : EV l prog_13_method_48_code "PrunedSearchModel" 2 none 1 62 [(0, vR 0), (1, vI x1)] [] (shM m) K' := by
  refine EV_aload_n 0 d_M_putVariable_62 rfl rfl ?_
  refine EV_get (j := 53) d_M_putVariable_63 shM_0 rfl fI11 (by decide) k_1021 rfl ?_
  refine EV_iload_n 1 d_M_putVariable_66 rfl rfl ?_
  obtain ⟨hi, H⟩ := H
  refine EV_iald d_M_putVariable_67 shM_31 hi ?_
  refine EV_bipush d_M_putVariable_68 (by decide +kernel) ⟨by decide, by decide⟩ ?_
  refine EV_icmp_le (tgt := 92) d_M_putVariable_70 (by decide) (fun hc => ?_) (fun hc => ?_)
  · have H := H.1 hc
    exact ct_M_putVariable_92 H hK
  · have H := H.2 hc
    refine EV_aload_n 0 d_M_putVariable_73 rfl rfl ?_
    refine EV_bipush d_M_putVariable_74 (by decide +kernel) ⟨by decide, by decide⟩ ?_
    refine EV_aload_n 0 d_M_putVariable_76 rfl rfl ?_
    refine EV_get (j := 53) d_M_putVariable_77 shM_0 rfl fI11 (by decide) k_1021 rfl ?_
    refine EV_iload_n 1 d_M_putVariable_80 rfl rfl ?_
    obtain ⟨hi, H⟩ := H
    refine EV_iald d_M_putVariable_81 shM_31 hi ?_
    refine EV_bipush d_M_putVariable_82 (by decide +kernel) ⟨by decide, by decide⟩ ?_
    obtain ⟨h0, H⟩ := H
    refine EV_idiv d_M_putVariable_84 h0 (by decide) ?_
    refine EV_bipush d_M_putVariable_85 (by decide +kernel) ⟨by decide, by decide⟩ ?_
    obtain ⟨h0, H⟩ := H
    refine EV_irem d_M_putVariable_87 h0 (by decide) ?_
    obtain ⟨hr, H⟩ := H
    refine EV_iadd d_M_putVariable_88 hr ?_
    refine EV_callV (as := [vI (48 + (((m.2.1 26 x1) / 10) % 10))]) (st := []) d_M_putVariable_89 k_1324 k_1326 kp_81 k_12 k_1327 shM_0 rfl pd_40 ⟨by decide, by decide, Nat.le_of_ble_eq_true rfl⟩ rfl (ct_M_put H (fun m_3 H => ?_))
    exact ct_M_putVariable_92 H hK
theorem ct_M_putVariable_29 {l : Launch} {K : Ob → Prop} {K' : Option AV → List AC → Prop} {x1 : Int} {m : Ob} (H : M_putVariable_29 x1 m K) (hK : ∀ (m' : Ob), K m' → K' none (shM m')) : EV l prog_13_method_48_code "PrunedSearchModel" 2 none 1 29 [(0, vR 0), (1, vI x1)] [] (shM m) K' := by
  refine EV_aload_n 0 d_M_putVariable_29 rfl rfl ?_
  refine EV_bipush d_M_putVariable_30 (by decide +kernel) ⟨by decide, by decide⟩ ?_
  refine EV_callV (as := [vI 95]) (st := []) d_M_putVariable_32 k_1324 k_1326 kp_81 k_12 k_1327 shM_0 rfl pd_40 ⟨by decide, by decide, Nat.le_of_ble_eq_true rfl⟩ rfl (ct_M_put H (fun m_1 H => ?_))
  refine EV_aload_n 0 d_M_putVariable_35 rfl rfl ?_
  refine EV_get (j := 53) d_M_putVariable_36 shM_0 rfl fI11 (by decide) k_1021 rfl ?_
  refine EV_iload_n 1 d_M_putVariable_39 rfl rfl ?_
  obtain ⟨hi, H⟩ := H
  refine EV_iald d_M_putVariable_40 shM_31 hi ?_
  refine EV_bipush d_M_putVariable_41 (by decide +kernel) ⟨by decide, by decide⟩ ?_
  refine EV_icmp_le (tgt := 62) d_M_putVariable_43 (by decide) (fun hc => ?_) (fun hc => ?_)
  · have H := H.1 hc
    exact ct_M_putVariable_62 H hK
  · have H := H.2 hc
    refine EV_aload_n 0 d_M_putVariable_46 rfl rfl ?_
    refine EV_bipush d_M_putVariable_47 (by decide +kernel) ⟨by decide, by decide⟩ ?_
    refine EV_aload_n 0 d_M_putVariable_49 rfl rfl ?_
    refine EV_get (j := 53) d_M_putVariable_50 shM_0 rfl fI11 (by decide) k_1021 rfl ?_
    refine EV_iload_n 1 d_M_putVariable_53 rfl rfl ?_
    obtain ⟨hi, H⟩ := H
    refine EV_iald d_M_putVariable_54 shM_31 hi ?_
    refine EV_bipush d_M_putVariable_55 (by decide +kernel) ⟨by decide, by decide⟩ ?_
    obtain ⟨h0, H⟩ := H
    refine EV_idiv d_M_putVariable_57 h0 (by decide) ?_
    obtain ⟨hr, H⟩ := H
    refine EV_iadd d_M_putVariable_58 hr ?_
    refine EV_callV (as := [vI (48 + ((m_1.2.1 26 x1) / 100))]) (st := []) d_M_putVariable_59 k_1324 k_1326 kp_81 k_12 k_1327 shM_0 rfl pd_40 ⟨by decide, by decide, Nat.le_of_ble_eq_true rfl⟩ rfl (ct_M_put H (fun m_4 H => ?_))
    exact ct_M_putVariable_62 H hK
theorem ct_M_putVariable {l : Launch} {m : Ob} {x1 : Int} {K : Ob → Prop} {K' : Option AV → List AC → Prop} (H : wp_M_putVariable x1 m K) (hK : ∀ (m' : Ob), K m' → K' none (shM m')) : MT l ⟨"PrunedSearchModel", "putVariable", "(I)V"⟩ prog_13_method_48_code 2 none 1 [vR 0, vI x1] (shM m) K' := by
  unfold wp_M_putVariable at H
  refine MT_of (lv := [(0, vR 0), (1, vI x1)]) rfl rfl (Nat.le_of_ble_eq_true rfl) rfl ?_
  refine EV_aload_n 0 d_M_putVariable_0 rfl rfl ?_
  refine EV_get (j := 53) d_M_putVariable_1 shM_0 rfl fI11 (by decide) k_1021 rfl ?_
  refine EV_iload_n 1 d_M_putVariable_4 rfl rfl ?_
  obtain ⟨hi, H⟩ := H
  refine EV_iald d_M_putVariable_5 shM_31 hi ?_
  refine EV_if_ge (tgt := 29) d_M_putVariable_6 (by decide) (fun hc => ?_) (fun hc => ?_)
  · have H := H.1 hc
    exact ct_M_putVariable_29 H hK
  · have H := H.2 hc
    refine EV_aload_n 0 d_M_putVariable_9 rfl rfl ?_
    refine EV_get (j := 53) d_M_putVariable_10 shM_0 rfl fI11 (by decide) k_1021 rfl ?_
    refine EV_iload_n 1 d_M_putVariable_13 rfl rfl ?_
    refine EV_aload_n 0 d_M_putVariable_14 rfl rfl ?_
    refine EV_get (j := 54) d_M_putVariable_15 shM_0 rfl fI11 (by decide) k_1022 rfl ?_
    obtain ⟨hi, H⟩ := H
    refine EV_iast d_M_putVariable_18 shM_31 hi shM_31_s ?_
    refine EV_aload_n 0 d_M_putVariable_19 rfl rfl ?_
    refine EV_aload_n 0 d_M_putVariable_20 rfl rfl ?_
    refine EV_get (j := 54) d_M_putVariable_21 shM_0 rfl fI11 (by decide) k_1022 rfl ?_
    refine EV_iconst d_M_putVariable_24 ⟨by decide, by decide⟩ ?_
    obtain ⟨hr, H⟩ := H
    refine EV_iadd d_M_putVariable_25 hr ?_
    refine EV_put (j := 54) d_M_putVariable_26 shM_0 rfl fI11 fO11 fN11 (by decide) k_1022 rfl rfl (fun ad => nf_int ad _) (Nat.le_of_ble_eq_true rfl) shM_0_54 ?_
    exact ct_M_putVariable_29 H hK
theorem ct_M_putWord_32 {l : Launch} {K : Ob → Prop} {K' : Option AV → List AC → Prop} {L2 : Nat → Int → Ob → Prop} {y1 : Nat} {x3 : Int} {m : Ob} (hL2 : ∀ (y1 : Nat) (x3 : Int) (m : Ob), L2 y1 x3 m → EV l prog_13_method_47_code "PrunedSearchModel" 5 none 1 2 [(0, vR 0), (1, vL y1), (3, vI x3)] [] (shM m) K') (H : M_putWord_32 L2 y1 x3 m K) (hK : ∀ (m' : Ob), K m' → K' none (shM m')) : EV l prog_13_method_47_code "PrunedSearchModel" 5 none 1 32 [(0, vR 0), (1, vL y1), (3, vI x3)] [] (shM m) K' := by
  obtain ⟨hr, H⟩ := H
  refine EV_iinc (lv' := [(0, vR 0), (1, vL y1), (3, vI (x3 + 1))]) 2 [1, 2, 0] d_M_putWord_32 rfl (by decide) hr rfl ?_
  refine EV_goto (tgt := 2) d_M_putWord_35 (by decide) ?_
  exact hL2 y1 (x3 + 1) m H
theorem ct_M_putWord_2 {l : Launch} {K : Ob → Prop} {K' : Option AV → List AC → Prop} (hK : ∀ (m' : Ob), K m' → K' none (shM m')) : ∀ (n : Nat) (y1 : Nat) (x3 : Int) (m : Ob), M_putWord_2 n y1 x3 m K → EV l prog_13_method_47_code "PrunedSearchModel" 5 none 1 2 [(0, vR 0), (1, vL y1), (3, vI x3)] [] (shM m) K' := by
  intro n
  induction n with
  | zero =>
    intro y1 x3 m H
    exact H.elim
  | succ n ih =>
    intro y1 x3 m H
    refine EV_iload_n 2 d_M_putWord_2 rfl rfl ?_
    refine EV_bipush d_M_putWord_3 (by decide +kernel) ⟨by decide, by decide⟩ ?_
    refine EV_icmp_ge (tgt := 38) d_M_putWord_5 (by decide) (fun hc => ?_) (fun hc => ?_)
    · have H := H.1 hc
      exact EV_vret d_M_putWord_38 rfl (hK _ H)
    · have H := H.2 hc
      refine EV_lload_n 1 d_M_putWord_8 rfl rfl ?_
      refine EV_bipush d_M_putWord_9 (by decide +kernel) ⟨by decide, by decide⟩ ?_
      refine EV_iload_n 2 d_M_putWord_11 rfl rfl ?_
      obtain ⟨hr, H⟩ := H
      refine EV_imul d_M_putWord_12 hr ?_
      obtain ⟨h1, H⟩ := H
      refine EV_lshr d_M_putWord_13 h1 ?_
      refine EV_ldc2 (n := 255) d_M_putWord_14 k_1138 (by decide +kernel) (by decide) ?_
      refine EV_land d_M_putWord_17 ?_
      obtain ⟨h0, H⟩ := H
      refine EV_l2i d_M_putWord_18 h0 ?_
      refine EV_istore (lv' := [(0, vR 0), (1, vL y1), (3, vI x3), (4, vI (((sar y1 (8 * x3).toNat) &&& 255 : Nat) : Int))]) [1, 2, 3, 0] d_M_putWord_19 (by decide) rfl ?_
      refine EV_iload 3 d_M_putWord_21 rfl ?_
      refine EV_if_eq (tgt := 32) d_M_putWord_23 (by decide) (fun hc => ?_) (fun hc => ?_)
      · have H := H.1 hc
        refine EV_lv (lv' := [(0, vR 0), (1, vL y1), (3, vI x3)]) [0, 1, 2] rfl ?_
        exact ct_M_putWord_32 (fun y1 x3 m' H => ih y1 x3 m' H) H hK
      · have H := H.2 hc
        refine EV_aload_n 0 d_M_putWord_26 rfl rfl ?_
        refine EV_iload 3 d_M_putWord_27 rfl ?_
        refine EV_callV (as := [vI (((sar y1 (8 * x3).toNat) &&& 255 : Nat) : Int)]) (st := []) d_M_putWord_29 k_1324 k_1326 kp_81 k_12 k_1327 shM_0 rfl pd_40 ⟨by decide, by decide, Nat.le_of_ble_eq_true rfl⟩ rfl (ct_M_put H (fun m_1 H => ?_))
        refine EV_lv (lv' := [(0, vR 0), (1, vL y1), (3, vI x3)]) [0, 1, 2] rfl ?_
        exact ct_M_putWord_32 (fun y1 x3 m' H => ih y1 x3 m' H) H hK
theorem ct_M_putWord {l : Launch} {m : Ob} {y1 : Nat} {K : Ob → Prop} {K' : Option AV → List AC → Prop} (H : wp_M_putWord y1 m K) (hK : ∀ (m' : Ob), K m' → K' none (shM m')) : MT l ⟨"PrunedSearchModel", "putWord", "(J)V"⟩ prog_13_method_47_code 5 none 1 [vR 0, vL y1] (shM m) K' := by
  unfold wp_M_putWord at H
  refine MT_of (lv := [(0, vR 0), (1, vL y1)]) rfl rfl (Nat.le_of_ble_eq_true rfl) rfl ?_
  refine EV_iconst d_M_putWord_0 ⟨by decide, by decide⟩ ?_
  refine EV_istore_n (lv' := [(0, vR 0), (1, vL y1), (3, vI 0)]) [1, 2, 0] d_M_putWord_1 rfl (by decide) rfl ?_
  obtain ⟨n, H⟩ := H
  exact ct_M_putWord_2 hK n y1 0 m H
theorem ct_M_writeTerm_221 {l : Launch} {K : Int → Ob → Prop} {K' : Option AV → List AC → Prop} {L155 : Int → Int → Int → Int → Ob → Prop} {x1 : Int} {x2 : Int} {x5 : Int} {s0 : Int} {m : Ob} (hL155 : ∀ (x1 : Int) (x2 : Int) (x4 : Int) (x5 : Int) (m : Ob), L155 x1 x2 x4 x5 m → EV l prog_13_method_50_code "PrunedSearchModel" 8 (some .int) 2 155 [(0, vR 0), (1, vI x1), (2, vI x2), (4, vI x4), (5, vI x5)] [] (shM m) K') (H : M_writeTerm_221 L155 x1 x2 x5 s0 m K) (hK : ∀ (r : Int) (m' : Ob), K r m' → K' (some (vI r)) (shM m')) : EV l prog_13_method_50_code "PrunedSearchModel" 8 (some .int) 2 221 [(0, vR 0), (1, vI x1), (2, vI x2), (5, vI x5)] [vI s0] (shM m) K' := by
  refine EV_istore (lv' := [(0, vR 0), (1, vI x1), (2, vI x2), (4, vI s0), (5, vI x5)]) [1, 2, 3, 0, 4] d_M_writeTerm_221 (by decide) rfl ?_
  obtain ⟨hr, H⟩ := H
  refine EV_iinc (lv' := [(0, vR 0), (1, vI x1), (2, vI x2), (4, vI s0), (5, vI (x5 + (-1)))]) 4 [1, 2, 3, 4, 0] d_M_writeTerm_223 rfl (by decide) hr rfl ?_
  refine EV_goto (tgt := 155) d_M_writeTerm_226 (by decide) ?_
  exact hL155 x1 x2 s0 (x5 + (-1)) m H
theorem ct_M_writeTerm_189 {l : Launch} {K : Int → Ob → Prop} {K' : Option AV → List AC → Prop} {L155 : Int → Int → Int → Int → Ob → Prop} {x1 : Int} {x2 : Int} {x4 : Int} {x5 : Int} {x6 : Int} {m : Ob} (hL155 : ∀ (x1 : Int) (x2 : Int) (x4 : Int) (x5 : Int) (m : Ob), L155 x1 x2 x4 x5 m → EV l prog_13_method_50_code "PrunedSearchModel" 8 (some .int) 2 155 [(0, vR 0), (1, vI x1), (2, vI x2), (4, vI x4), (5, vI x5)] [] (shM m) K') (H : M_writeTerm_189 L155 x1 x2 x4 x5 x6 m K) (hK : ∀ (r : Int) (m' : Ob), K r m' → K' (some (vI r)) (shM m')) : EV l prog_13_method_50_code "PrunedSearchModel" 8 (some .int) 2 189 [(0, vR 0), (1, vI x1), (2, vI x2), (4, vI x4), (5, vI x5), (6, vI x6)] [] (shM m) K' := by
  refine EV_aload_n 0 d_M_writeTerm_189 rfl rfl ?_
  refine EV_iload 3 d_M_writeTerm_190 rfl ?_
  refine EV_iconst d_M_writeTerm_192 ⟨by decide, by decide⟩ ?_
  refine EV_iload 5 d_M_writeTerm_193 rfl ?_
  refine EV_iload_n 2 d_M_writeTerm_195 rfl rfl ?_
  refine EV_callV (as := [vI x4, vI 0, vI x6, vI x2]) (st := []) d_M_writeTerm_196 k_1320 k_1322 kp_80 k_12 k_1323 shM_0 rfl pd_41 ⟨by decide, by decide, Nat.le_of_ble_eq_true rfl⟩ rfl (ct_M_later H (fun r_6 m_5 H => ?_))
  refine EV_istore (lv' := [(0, vR 0), (1, vI x1), (2, vI x2), (4, vI r_6), (5, vI x5), (6, vI x6)]) [1, 2, 3, 0, 4, 5] d_M_writeTerm_199 (by decide) rfl ?_
  refine EV_iload 4 d_M_writeTerm_201 rfl ?_
  refine EV_if_le (tgt := 219) d_M_writeTerm_203 (by decide) (fun hc => ?_) (fun hc => ?_)
  · have H := H.1 hc
    refine EV_iload 3 d_M_writeTerm_219 rfl ?_
    refine EV_lv (lv' := [(0, vR 0), (1, vI x1), (2, vI x2), (5, vI x5)]) [0, 1, 2, 4] rfl ?_
    exact ct_M_writeTerm_221 hL155 H hK
  · have H := H.2 hc
    refine EV_aload_n 0 d_M_writeTerm_206 rfl rfl ?_
    refine EV_iload 3 d_M_writeTerm_207 rfl ?_
    refine EV_iconst d_M_writeTerm_209 ⟨by decide, by decide⟩ ?_
    refine EV_bipush d_M_writeTerm_210 (by decide +kernel) ⟨by decide, by decide⟩ ?_
    refine EV_iconst d_M_writeTerm_212 ⟨by decide, by decide⟩ ?_
    refine EV_callV (as := [vI r_6, vI 1, vI 44, vI 0]) (st := []) d_M_writeTerm_213 k_1320 k_1322 kp_80 k_12 k_1323 shM_0 rfl pd_41 ⟨by decide, by decide, Nat.le_of_ble_eq_true rfl⟩ rfl (ct_M_later H (fun r_8 m_7 H => ?_))
    refine EV_goto (tgt := 221) d_M_writeTerm_216 (by decide) ?_
    refine EV_lv (lv' := [(0, vR 0), (1, vI x1), (2, vI x2), (5, vI x5)]) [0, 1, 2, 4] rfl ?_
    exact ct_M_writeTerm_221 hL155 H hK
theorem ct_M_writeTerm_168 {l : Launch} {K : Int → Ob → Prop} {K' : Option AV → List AC → Prop} {L155 : Int → Int → Int → Int → Ob → Prop} (hL155 : ∀ (x1 : Int) (x2 : Int) (x4 : Int) (x5 : Int) (m : Ob), L155 x1 x2 x4 x5 m → EV l prog_13_method_50_code "PrunedSearchModel" 8 (some .int) 2 155 [(0, vR 0), (1, vI x1), (2, vI x2), (4, vI x4), (5, vI x5)] [] (shM m) K') (hK : ∀ (r : Int) (m' : Ob), K r m' → K' (some (vI r)) (shM m')) : ∀ (n : Nat) (x1 : Int) (x2 : Int) (x4 : Int) (x5 : Int) (x6 : Int) (x7 : Int) (m : Ob), M_writeTerm_168 L155 n x1 x2 x4 x5 x6 x7 m K → EV l prog_13_method_50_code "PrunedSearchModel" 8 (some .int) 2 168 [(0, vR 0), (1, vI x1), (2, vI x2), (4, vI x4), (5, vI x5), (6, vI x6), (7, vI x7)] [] (shM m) K' := by
  intro n
  induction n with
  | zero =>
    intro x1 x2 x4 x5 x6 x7 m H
    exact H.elim
  | succ n ih =>
    intro x1 x2 x4 x5 x6 x7 m H
    refine EV_iload 6 d_M_writeTerm_168 rfl ?_
    refine EV_iload 4 d_M_writeTerm_170 rfl ?_
    refine EV_icmp_ge (tgt := 189) d_M_writeTerm_172 (by decide) (fun hc => ?_) (fun hc => ?_)
    · have H := H.1 hc
      refine EV_lv (lv' := [(0, vR 0), (1, vI x1), (2, vI x2), (4, vI x4), (5, vI x5), (6, vI x6)]) [0, 1, 2, 3, 4, 5] rfl ?_
      exact ct_M_writeTerm_189 hL155 H hK
    · have H := H.2 hc
      refine EV_aload_n 0 d_M_writeTerm_175 rfl rfl ?_
      refine EV_iload 5 d_M_writeTerm_176 rfl ?_
      refine EV_callV (as := [vI x6]) (st := []) d_M_writeTerm_178 k_1288 k_1290 kp_73 k_12 k_1291 shM_0 rfl pd_24 ⟨by decide, by decide, Nat.le_of_ble_eq_true rfl⟩ rfl (ct_M_behind H (fun r_9 H => ?_))
      refine EV_istore (lv' := [(0, vR 0), (1, vI x1), (2, vI x2), (4, vI x4), (5, vI x5), (6, vI r_9), (7, vI x7)]) [1, 2, 3, 4, 5, 0, 6] d_M_writeTerm_181 (by decide) rfl ?_
      obtain ⟨hr, H⟩ := H
      refine EV_iinc (lv' := [(0, vR 0), (1, vI x1), (2, vI x2), (4, vI x4), (5, vI x5), (6, vI r_9), (7, vI (x7 + 1))]) 6 [1, 2, 3, 4, 5, 6, 0] d_M_writeTerm_183 rfl (by decide) hr rfl ?_
      refine EV_goto (tgt := 168) d_M_writeTerm_186 (by decide) ?_
      exact ih x1 x2 x4 x5 r_9 (x7 + 1) m H
theorem ct_M_writeTerm_155 {l : Launch} {K : Int → Ob → Prop} {K' : Option AV → List AC → Prop} (hK : ∀ (r : Int) (m' : Ob), K r m' → K' (some (vI r)) (shM m')) : ∀ (n : Nat) (x1 : Int) (x2 : Int) (x4 : Int) (x5 : Int) (m : Ob), M_writeTerm_155 n x1 x2 x4 x5 m K → EV l prog_13_method_50_code "PrunedSearchModel" 8 (some .int) 2 155 [(0, vR 0), (1, vI x1), (2, vI x2), (4, vI x4), (5, vI x5)] [] (shM m) K' := by
  intro n
  induction n with
  | zero =>
    intro x1 x2 x4 x5 m H
    exact H.elim
  | succ n ih =>
    intro x1 x2 x4 x5 m H
    refine EV_iload 4 d_M_writeTerm_155 rfl ?_
    refine EV_if_lt (tgt := 229) d_M_writeTerm_157 (by decide) (fun hc => ?_) (fun hc => ?_)
    · have H := H.1 hc
      refine EV_iload 3 d_M_writeTerm_229 rfl ?_
      exact EV_iret d_M_writeTerm_231 rfl (nw_int _) (hK _ _ H)
    · have H := H.2 hc
      refine EV_iload_n 1 d_M_writeTerm_160 rfl rfl ?_
      refine EV_iconst d_M_writeTerm_161 ⟨by decide, by decide⟩ ?_
      obtain ⟨hr, H⟩ := H
      refine EV_iadd d_M_writeTerm_162 hr ?_
      refine EV_istore (lv' := [(0, vR 0), (1, vI x1), (2, vI x2), (4, vI x4), (5, vI x5), (6, vI (x1 + 1))]) [1, 2, 3, 4, 5, 0] d_M_writeTerm_163 (by decide) rfl ?_
      refine EV_iconst d_M_writeTerm_165 ⟨by decide, by decide⟩ ?_
      refine EV_istore (lv' := [(0, vR 0), (1, vI x1), (2, vI x2), (4, vI x4), (5, vI x5), (6, vI (x1 + 1)), (7, vI 0)]) [1, 2, 3, 4, 5, 6, 0] d_M_writeTerm_166 (by decide) rfl ?_
      obtain ⟨n, H⟩ := H
      exact ct_M_writeTerm_168 (fun x1 x2 x4 x5 m' H => ih x1 x2 x4 x5 m' H) hK n x1 x2 x4 x5 (x1 + 1) 0 m H
theorem ct_M_writeTerm {l : Launch} {m : Ob} {x1 : Int} {x2 : Int} {x3 : Int} {K : Int → Ob → Prop} {K' : Option AV → List AC → Prop} (H : wp_M_writeTerm x1 x2 x3 m K) (hK : ∀ (r : Int) (m' : Ob), K r m' → K' (some (vI r)) (shM m')) : MT l ⟨"PrunedSearchModel", "writeTerm", "(III)I"⟩ prog_13_method_50_code 8 (some .int) 2 [vR 0, vI x1, vI x2, vI x3] (shM m) K' := by
  unfold wp_M_writeTerm at H
  refine MT_of (lv := [(0, vR 0), (1, vI x1), (2, vI x2), (3, vI x3)]) rfl rfl (Nat.le_of_ble_eq_true rfl) rfl ?_
  refine EV_aload_n 0 d_M_writeTerm_0 rfl rfl ?_
  refine EV_get (j := 24) d_M_writeTerm_1 shM_0 rfl fI11 (by decide) k_992 rfl ?_
  refine EV_iload_n 1 d_M_writeTerm_4 rfl rfl ?_
  obtain ⟨hi, H⟩ := H
  refine EV_iald d_M_writeTerm_5 shM_14 hi ?_
  refine EV_iconst d_M_writeTerm_6 ⟨by decide, by decide⟩ ?_
  refine EV_icmp_ne (tgt := 28) d_M_writeTerm_7 (by decide) (fun hc => ?_) (fun hc => ?_)
  · have H := H.1 hc
    refine EV_iload_n 3 d_M_writeTerm_28 rfl rfl ?_
    refine EV_istore (lv' := [(0, vR 0), (1, vI x1), (2, vI x2), (3, vI x3), (4, vI x3)]) [1, 2, 3, 4, 0] d_M_writeTerm_29 (by decide) rfl ?_
    refine EV_aload_n 0 d_M_writeTerm_31 rfl rfl ?_
    refine EV_get (j := 23) d_M_writeTerm_32 shM_0 rfl fI11 (by decide) k_991 rfl ?_
    refine EV_iload_n 1 d_M_writeTerm_35 rfl rfl ?_
    obtain ⟨hi, H⟩ := H
    refine EV_lald d_M_writeTerm_36 shM_13 hi ?_
    refine EV_lconst (v := 1) d_M_writeTerm_37 rfl ?_
    refine EV_lcmp_ne (tgt := 77) d_M_writeTerm_38 d_M_writeTerm_39 (by decide) (fun hc => ?_) (fun hc => ?_)
    · have H := H.1 hc
      refine EV_aload_n 0 d_M_writeTerm_77 rfl rfl ?_
      refine EV_get (j := 23) d_M_writeTerm_78 shM_0 rfl fI11 (by decide) k_991 rfl ?_
      refine EV_iload_n 1 d_M_writeTerm_81 rfl rfl ?_
      obtain ⟨hi, H⟩ := H
      refine EV_lald d_M_writeTerm_82 shM_13 hi ?_
      refine EV_ldc2 (n := 2) d_M_writeTerm_83 k_1188 (by decide +kernel) (by decide) ?_
      refine EV_lcmp_ne (tgt := 105) d_M_writeTerm_86 d_M_writeTerm_87 (by decide) (fun hc => ?_) (fun hc => ?_)
      · have H := H.1 hc
        refine EV_aload_n 0 d_M_writeTerm_105 rfl rfl ?_
        refine EV_aload_n 0 d_M_writeTerm_106 rfl rfl ?_
        refine EV_get (j := 23) d_M_writeTerm_107 shM_0 rfl fI11 (by decide) k_991 rfl ?_
        refine EV_iload_n 1 d_M_writeTerm_110 rfl rfl ?_
        obtain ⟨hi, H⟩ := H
        refine EV_lald d_M_writeTerm_111 shM_13 hi ?_
        refine EV_callV (as := [vL (m.2.2.2 2 x1)]) (st := []) d_M_writeTerm_112 k_1336 k_1338 kp_84 k_12 k_1339 shM_0 rfl pd_42 ⟨by decide, by decide, Nat.le_of_ble_eq_true rfl⟩ rfl (ct_M_putWord H (fun m_1 H => ?_))
        refine EV_aload_n 0 d_M_writeTerm_115 rfl rfl ?_
        refine EV_get (j := 24) d_M_writeTerm_116 shM_0 rfl fI11 (by decide) k_992 rfl ?_
        refine EV_iload_n 1 d_M_writeTerm_119 rfl rfl ?_
        obtain ⟨hi, H⟩ := H
        refine EV_iald d_M_writeTerm_120 shM_14 hi ?_
        refine EV_if_ne (tgt := 127) d_M_writeTerm_121 (by decide) (fun hc => ?_) (fun hc => ?_)
        · have H := H.1 hc
          refine EV_aload_n 0 d_M_writeTerm_127 rfl rfl ?_
          refine EV_bipush d_M_writeTerm_128 (by decide +kernel) ⟨by decide, by decide⟩ ?_
          refine EV_callV (as := [vI 40]) (st := []) d_M_writeTerm_130 k_1324 k_1326 kp_81 k_12 k_1327 shM_0 rfl pd_40 ⟨by decide, by decide, Nat.le_of_ble_eq_true rfl⟩ rfl (ct_M_put H (fun m_2 H => ?_))
          refine EV_aload_n 0 d_M_writeTerm_133 rfl rfl ?_
          refine EV_iload 4 d_M_writeTerm_134 rfl ?_
          refine EV_iconst d_M_writeTerm_136 ⟨by decide, by decide⟩ ?_
          refine EV_bipush d_M_writeTerm_137 (by decide +kernel) ⟨by decide, by decide⟩ ?_
          refine EV_iconst d_M_writeTerm_139 ⟨by decide, by decide⟩ ?_
          refine EV_callV (as := [vI x3, vI 1, vI 41, vI 0]) (st := []) d_M_writeTerm_140 k_1320 k_1322 kp_80 k_12 k_1323 shM_0 rfl pd_41 ⟨by decide, by decide, Nat.le_of_ble_eq_true rfl⟩ rfl (ct_M_later H (fun r_4 m_3 H => ?_))
          refine EV_istore (lv' := [(0, vR 0), (1, vI x1), (2, vI x2), (3, vI x3), (4, vI r_4)]) [1, 2, 3, 4, 0] d_M_writeTerm_143 (by decide) rfl ?_
          refine EV_aload_n 0 d_M_writeTerm_145 rfl rfl ?_
          refine EV_get (j := 24) d_M_writeTerm_146 shM_0 rfl fI11 (by decide) k_992 rfl ?_
          refine EV_iload_n 1 d_M_writeTerm_149 rfl rfl ?_
          obtain ⟨hi, H⟩ := H
          refine EV_iald d_M_writeTerm_150 shM_14 hi ?_
          refine EV_iconst d_M_writeTerm_151 ⟨by decide, by decide⟩ ?_
          obtain ⟨hr, H⟩ := H
          refine EV_isub d_M_writeTerm_152 hr ?_
          refine EV_istore (lv' := [(0, vR 0), (1, vI x1), (2, vI x2), (3, vI x3), (4, vI r_4), (5, vI ((m_3.2.1 10 x1) - 1))]) [1, 2, 3, 4, 5, 0] d_M_writeTerm_153 (by decide) rfl ?_
          refine EV_lv (lv' := [(0, vR 0), (1, vI x1), (2, vI x2), (4, vI r_4), (5, vI ((m_3.2.1 10 x1) - 1))]) [0, 1, 2, 4, 5] rfl ?_
          obtain ⟨n, H⟩ := H
          exact ct_M_writeTerm_155 hK n x1 x2 r_4 ((m_3.2.1 10 x1) - 1) m_3 H
        · have H := H.2 hc
          refine EV_iload 4 d_M_writeTerm_124 rfl ?_
          exact EV_iret d_M_writeTerm_126 rfl (nw_int _) (hK _ _ H)
      · have H := H.2 hc
        refine EV_aload_n 0 d_M_writeTerm_90 rfl rfl ?_
        refine EV_bipush d_M_writeTerm_91 (by decide +kernel) ⟨by decide, by decide⟩ ?_
        refine EV_callV (as := [vI 91]) (st := []) d_M_writeTerm_93 k_1324 k_1326 kp_81 k_12 k_1327 shM_0 rfl pd_40 ⟨by decide, by decide, Nat.le_of_ble_eq_true rfl⟩ rfl (ct_M_put H (fun m_10 H => ?_))
        refine EV_aload_n 0 d_M_writeTerm_96 rfl rfl ?_
        refine EV_bipush d_M_writeTerm_97 (by decide +kernel) ⟨by decide, by decide⟩ ?_
        refine EV_callV (as := [vI 93]) (st := []) d_M_writeTerm_99 k_1324 k_1326 kp_81 k_12 k_1327 shM_0 rfl pd_40 ⟨by decide, by decide, Nat.le_of_ble_eq_true rfl⟩ rfl (ct_M_put H (fun m_11 H => ?_))
        refine EV_iload 4 d_M_writeTerm_102 rfl ?_
        exact EV_iret d_M_writeTerm_104 rfl (nw_int _) (hK _ _ H)
    · have H := H.2 hc
      refine EV_aload_n 0 d_M_writeTerm_42 rfl rfl ?_
      refine EV_bipush d_M_writeTerm_43 (by decide +kernel) ⟨by decide, by decide⟩ ?_
      refine EV_callV (as := [vI 91]) (st := []) d_M_writeTerm_45 k_1324 k_1326 kp_81 k_12 k_1327 shM_0 rfl pd_40 ⟨by decide, by decide, Nat.le_of_ble_eq_true rfl⟩ rfl (ct_M_put H (fun m_12 H => ?_))
      refine EV_aload_n 0 d_M_writeTerm_48 rfl rfl ?_
      refine EV_iload 4 d_M_writeTerm_49 rfl ?_
      refine EV_iconst d_M_writeTerm_51 ⟨by decide, by decide⟩ ?_
      refine EV_aload_n 0 d_M_writeTerm_52 rfl rfl ?_
      refine EV_iload_n 1 d_M_writeTerm_53 rfl rfl ?_
      refine EV_iconst d_M_writeTerm_54 ⟨by decide, by decide⟩ ?_
      obtain ⟨hr, H⟩ := H
      refine EV_iadd d_M_writeTerm_55 hr ?_
      refine EV_callV (as := [vI (x1 + 1)]) (st := [vI 2, vI x3, vR 0]) d_M_writeTerm_56 k_1288 k_1290 kp_73 k_12 k_1291 shM_0 rfl pd_24 ⟨by decide, by decide, Nat.le_of_ble_eq_true rfl⟩ rfl (ct_M_behind H (fun r_13 H => ?_))
      refine EV_iload_n 2 d_M_writeTerm_59 rfl rfl ?_
      refine EV_callV (as := [vI x3, vI 2, vI r_13, vI x2]) (st := []) d_M_writeTerm_60 k_1320 k_1322 kp_80 k_12 k_1323 shM_0 rfl pd_41 ⟨by decide, by decide, Nat.le_of_ble_eq_true rfl⟩ rfl (ct_M_later H (fun r_15 m_14 H => ?_))
      refine EV_istore (lv' := [(0, vR 0), (1, vI x1), (2, vI x2), (3, vI x3), (4, vI r_15)]) [1, 2, 3, 4, 0] d_M_writeTerm_63 (by decide) rfl ?_
      refine EV_aload_n 0 d_M_writeTerm_65 rfl rfl ?_
      refine EV_iload 4 d_M_writeTerm_66 rfl ?_
      refine EV_iconst d_M_writeTerm_68 ⟨by decide, by decide⟩ ?_
      refine EV_iload_n 1 d_M_writeTerm_69 rfl rfl ?_
      refine EV_iconst d_M_writeTerm_70 ⟨by decide, by decide⟩ ?_
      obtain ⟨hr, H⟩ := H
      refine EV_iadd d_M_writeTerm_71 hr ?_
      refine EV_iload_n 2 d_M_writeTerm_72 rfl rfl ?_
      refine EV_callV (as := [vI r_15, vI 0, vI (x1 + 1), vI x2]) (st := []) d_M_writeTerm_73 k_1320 k_1322 kp_80 k_12 k_1323 shM_0 rfl pd_41 ⟨by decide, by decide, Nat.le_of_ble_eq_true rfl⟩ rfl (ct_M_later H (fun r_17 m_16 H => ?_))
      exact EV_iret d_M_writeTerm_76 rfl (nw_int _) (hK _ _ H)
  · have H := H.2 hc
    refine EV_aload_n 0 d_M_writeTerm_10 rfl rfl ?_
    refine EV_bipush d_M_writeTerm_11 (by decide +kernel) ⟨by decide, by decide⟩ ?_
    refine EV_iload_n 2 d_M_writeTerm_13 rfl rfl ?_
    obtain ⟨hr, H⟩ := H
    refine EV_imul d_M_writeTerm_14 hr ?_
    refine EV_aload_n 0 d_M_writeTerm_15 rfl rfl ?_
    refine EV_get (j := 23) d_M_writeTerm_16 shM_0 rfl fI11 (by decide) k_991 rfl ?_
    refine EV_iload_n 1 d_M_writeTerm_19 rfl rfl ?_
    obtain ⟨hi, H⟩ := H
    refine EV_lald d_M_writeTerm_20 shM_13 hi ?_
    obtain ⟨h0, H⟩ := H
    refine EV_l2i d_M_writeTerm_21 h0 ?_
    obtain ⟨hr, H⟩ := H
    refine EV_iadd d_M_writeTerm_22 hr ?_
    refine EV_callV (as := [vI ((8 * x2) + (((m.2.2.2 2 x1) : Nat) : Int))]) (st := []) d_M_writeTerm_23 k_1332 k_1334 kp_83 k_12 k_1335 shM_0 rfl pd_43 ⟨by decide, by decide, Nat.le_of_ble_eq_true rfl⟩ rfl (ct_M_putVariable H (fun m_18 H => ?_))
    refine EV_iload_n 3 d_M_writeTerm_26 rfl rfl ?_
    exact EV_iret d_M_writeTerm_27 rfl (nw_int _) (hK _ _ H)
theorem ct_M_writeRest_85 {l : Launch} {K : Int → Ob → Prop} {K' : Option AV → List AC → Prop} {x1 : Int} {x2 : Int} {x3 : Int} {m : Ob} (H : M_writeRest_85 x1 x2 x3 m K) (hK : ∀ (r : Int) (m' : Ob), K r m' → K' (some (vI r)) (shM m')) : EV l prog_13_method_51_code "PrunedSearchModel" 5 (some .int) 1 85 [(0, vR 0), (1, vI x1), (2, vI x2), (3, vI x3)] [] (shM m) K' := by
  refine EV_aload_n 0 d_M_writeRest_85 rfl rfl ?_
  refine EV_bipush d_M_writeRest_86 (by decide +kernel) ⟨by decide, by decide⟩ ?_
  refine EV_callV (as := [vI 124]) (st := []) d_M_writeRest_88 k_1324 k_1326 kp_81 k_12 k_1327 shM_0 rfl pd_40 ⟨by decide, by decide, Nat.le_of_ble_eq_true rfl⟩ rfl (ct_M_put H (fun m_1 H => ?_))
  refine EV_aload_n 0 d_M_writeRest_91 rfl rfl ?_
  refine EV_iload_n 3 d_M_writeRest_92 rfl rfl ?_
  refine EV_iconst d_M_writeRest_93 ⟨by decide, by decide⟩ ?_
  refine EV_bipush d_M_writeRest_94 (by decide +kernel) ⟨by decide, by decide⟩ ?_
  refine EV_iconst d_M_writeRest_96 ⟨by decide, by decide⟩ ?_
  refine EV_callV (as := [vI x3, vI 1, vI 93, vI 0]) (st := []) d_M_writeRest_97 k_1320 k_1322 kp_80 k_12 k_1323 shM_0 rfl pd_41 ⟨by decide, by decide, Nat.le_of_ble_eq_true rfl⟩ rfl (ct_M_later H (fun r_3 m_2 H => ?_))
  refine EV_istore (lv' := [(0, vR 0), (1, vI x1), (2, vI x2), (3, vI x3), (4, vI r_3)]) [1, 2, 3, 4, 0] d_M_writeRest_100 (by decide) rfl ?_
  refine EV_aload_n 0 d_M_writeRest_102 rfl rfl ?_
  refine EV_iload 4 d_M_writeRest_103 rfl ?_
  refine EV_iconst d_M_writeRest_105 ⟨by decide, by decide⟩ ?_
  refine EV_iload_n 1 d_M_writeRest_106 rfl rfl ?_
  refine EV_iload_n 2 d_M_writeRest_107 rfl rfl ?_
  refine EV_callV (as := [vI r_3, vI 0, vI x1, vI x2]) (st := []) d_M_writeRest_108 k_1320 k_1322 kp_80 k_12 k_1323 shM_0 rfl pd_41 ⟨by decide, by decide, Nat.le_of_ble_eq_true rfl⟩ rfl (ct_M_later H (fun r_5 m_4 H => ?_))
  exact EV_iret d_M_writeRest_111 rfl (nw_int _) (hK _ _ H)
theorem ct_M_writeRest_30 {l : Launch} {K : Int → Ob → Prop} {K' : Option AV → List AC → Prop} {x1 : Int} {x2 : Int} {x3 : Int} {m : Ob} (H : M_writeRest_30 x1 x2 x3 m K) (hK : ∀ (r : Int) (m' : Ob), K r m' → K' (some (vI r)) (shM m')) : EV l prog_13_method_51_code "PrunedSearchModel" 5 (some .int) 1 30 [(0, vR 0), (1, vI x1), (2, vI x2), (3, vI x3)] [] (shM m) K' := by
  refine EV_aload_n 0 d_M_writeRest_30 rfl rfl ?_
  refine EV_get (j := 24) d_M_writeRest_31 shM_0 rfl fI11 (by decide) k_992 rfl ?_
  refine EV_iload_n 1 d_M_writeRest_34 rfl rfl ?_
  obtain ⟨hi, H⟩ := H
  refine EV_iald d_M_writeRest_35 shM_14 hi ?_
  refine EV_iconst d_M_writeRest_36 ⟨by decide, by decide⟩ ?_
  refine EV_icmp_ne (tgt := 85) d_M_writeRest_37 (by decide) (fun hc => ?_) (fun hc => ?_)
  · have H := H.1 hc
    exact ct_M_writeRest_85 H hK
  · have H := H.2 hc
    refine EV_aload_n 0 d_M_writeRest_40 rfl rfl ?_
    refine EV_get (j := 23) d_M_writeRest_41 shM_0 rfl fI11 (by decide) k_991 rfl ?_
    refine EV_iload_n 1 d_M_writeRest_44 rfl rfl ?_
    obtain ⟨hi, H⟩ := H
    refine EV_lald d_M_writeRest_45 shM_13 hi ?_
    refine EV_lconst (v := 1) d_M_writeRest_46 rfl ?_
    refine EV_lcmp_ne (tgt := 85) d_M_writeRest_47 d_M_writeRest_48 (by decide) (fun hc => ?_) (fun hc => ?_)
    · have H := H.1 hc
      exact ct_M_writeRest_85 H hK
    · have H := H.2 hc
      refine EV_aload_n 0 d_M_writeRest_51 rfl rfl ?_
      refine EV_bipush d_M_writeRest_52 (by decide +kernel) ⟨by decide, by decide⟩ ?_
      refine EV_callV (as := [vI 44]) (st := []) d_M_writeRest_54 k_1324 k_1326 kp_81 k_12 k_1327 shM_0 rfl pd_40 ⟨by decide, by decide, Nat.le_of_ble_eq_true rfl⟩ rfl (ct_M_put H (fun m_6 H => ?_))
      refine EV_aload_n 0 d_M_writeRest_57 rfl rfl ?_
      refine EV_iload_n 3 d_M_writeRest_58 rfl rfl ?_
      refine EV_iconst d_M_writeRest_59 ⟨by decide, by decide⟩ ?_
      refine EV_aload_n 0 d_M_writeRest_60 rfl rfl ?_
      refine EV_iload_n 1 d_M_writeRest_61 rfl rfl ?_
      refine EV_iconst d_M_writeRest_62 ⟨by decide, by decide⟩ ?_
      obtain ⟨hr, H⟩ := H
      refine EV_iadd d_M_writeRest_63 hr ?_
      refine EV_callV (as := [vI (x1 + 1)]) (st := [vI 2, vI x3, vR 0]) d_M_writeRest_64 k_1288 k_1290 kp_73 k_12 k_1291 shM_0 rfl pd_24 ⟨by decide, by decide, Nat.le_of_ble_eq_true rfl⟩ rfl (ct_M_behind H (fun r_7 H => ?_))
      refine EV_iload_n 2 d_M_writeRest_67 rfl rfl ?_
      refine EV_callV (as := [vI x3, vI 2, vI r_7, vI x2]) (st := []) d_M_writeRest_68 k_1320 k_1322 kp_80 k_12 k_1323 shM_0 rfl pd_41 ⟨by decide, by decide, Nat.le_of_ble_eq_true rfl⟩ rfl (ct_M_later H (fun r_9 m_8 H => ?_))
      refine EV_istore (lv' := [(0, vR 0), (1, vI x1), (2, vI x2), (3, vI x3), (4, vI r_9)]) [1, 2, 3, 4, 0] d_M_writeRest_71 (by decide) rfl ?_
      refine EV_aload_n 0 d_M_writeRest_73 rfl rfl ?_
      refine EV_iload 4 d_M_writeRest_74 rfl ?_
      refine EV_iconst d_M_writeRest_76 ⟨by decide, by decide⟩ ?_
      refine EV_iload_n 1 d_M_writeRest_77 rfl rfl ?_
      refine EV_iconst d_M_writeRest_78 ⟨by decide, by decide⟩ ?_
      obtain ⟨hr, H⟩ := H
      refine EV_iadd d_M_writeRest_79 hr ?_
      refine EV_iload_n 2 d_M_writeRest_80 rfl rfl ?_
      refine EV_callV (as := [vI r_9, vI 0, vI (x1 + 1), vI x2]) (st := []) d_M_writeRest_81 k_1320 k_1322 kp_80 k_12 k_1323 shM_0 rfl pd_41 ⟨by decide, by decide, Nat.le_of_ble_eq_true rfl⟩ rfl (ct_M_later H (fun r_11 m_10 H => ?_))
      exact EV_iret d_M_writeRest_84 rfl (nw_int _) (hK _ _ H)
theorem ct_M_writeRest {l : Launch} {m : Ob} {x1 : Int} {x2 : Int} {x3 : Int} {K : Int → Ob → Prop} {K' : Option AV → List AC → Prop} (H : wp_M_writeRest x1 x2 x3 m K) (hK : ∀ (r : Int) (m' : Ob), K r m' → K' (some (vI r)) (shM m')) : MT l ⟨"PrunedSearchModel", "writeRest", "(III)I"⟩ prog_13_method_51_code 5 (some .int) 1 [vR 0, vI x1, vI x2, vI x3] (shM m) K' := by
  unfold wp_M_writeRest at H
  refine MT_of (lv := [(0, vR 0), (1, vI x1), (2, vI x2), (3, vI x3)]) rfl rfl (Nat.le_of_ble_eq_true rfl) rfl ?_
  refine EV_aload_n 0 d_M_writeRest_0 rfl rfl ?_
  refine EV_get (j := 24) d_M_writeRest_1 shM_0 rfl fI11 (by decide) k_992 rfl ?_
  refine EV_iload_n 1 d_M_writeRest_4 rfl rfl ?_
  obtain ⟨hi, H⟩ := H
  refine EV_iald d_M_writeRest_5 shM_14 hi ?_
  refine EV_if_ne (tgt := 30) d_M_writeRest_6 (by decide) (fun hc => ?_) (fun hc => ?_)
  · have H := H.1 hc
    exact ct_M_writeRest_30 H hK
  · have H := H.2 hc
    refine EV_aload_n 0 d_M_writeRest_9 rfl rfl ?_
    refine EV_get (j := 23) d_M_writeRest_10 shM_0 rfl fI11 (by decide) k_991 rfl ?_
    refine EV_iload_n 1 d_M_writeRest_13 rfl rfl ?_
    obtain ⟨hi, H⟩ := H
    refine EV_lald d_M_writeRest_14 shM_13 hi ?_
    refine EV_ldc2 (n := 2) d_M_writeRest_15 k_1188 (by decide +kernel) (by decide) ?_
    refine EV_lcmp_ne (tgt := 30) d_M_writeRest_18 d_M_writeRest_19 (by decide) (fun hc => ?_) (fun hc => ?_)
    · have H := H.1 hc
      exact ct_M_writeRest_30 H hK
    · have H := H.2 hc
      refine EV_aload_n 0 d_M_writeRest_22 rfl rfl ?_
      refine EV_bipush d_M_writeRest_23 (by decide +kernel) ⟨by decide, by decide⟩ ?_
      refine EV_callV (as := [vI 93]) (st := []) d_M_writeRest_25 k_1324 k_1326 kp_81 k_12 k_1327 shM_0 rfl pd_40 ⟨by decide, by decide, Nat.le_of_ble_eq_true rfl⟩ rfl (ct_M_put H (fun m_12 H => ?_))
      refine EV_iload_n 3 d_M_writeRest_28 rfl rfl ?_
      exact EV_iret d_M_writeRest_29 rfl (nw_int _) (hK _ _ H)
theorem ct_M_write_101 {l : Launch} {K : Ob → Prop} {K' : Option AV → List AC → Prop} {L14 : Int → Ob → Prop} {x2 : Int} {m : Ob} (hL14 : ∀ (x2 : Int) (m : Ob), L14 x2 m → EV l prog_13_method_52_code "PrunedSearchModel" 5 none 3 14 [(0, vR 0), (2, vI x2)] [] (shM m) K') (H : M_write_101 L14 x2 m K) (hK : ∀ (m' : Ob), K m' → K' none (shM m')) : EV l prog_13_method_52_code "PrunedSearchModel" 5 none 3 101 [(0, vR 0), (2, vI x2)] [] (shM m) K' := by
  refine EV_goto (tgt := 14) d_M_write_101 (by decide) ?_
  exact hL14 x2 m H
theorem ct_M_write_100 {l : Launch} {K : Ob → Prop} {K' : Option AV → List AC → Prop} {L14 : Int → Ob → Prop} {s0 : Int} {m : Ob} (hL14 : ∀ (x2 : Int) (m : Ob), L14 x2 m → EV l prog_13_method_52_code "PrunedSearchModel" 5 none 3 14 [(0, vR 0), (2, vI x2)] [] (shM m) K') (H : M_write_100 L14 s0 m K) (hK : ∀ (m' : Ob), K m' → K' none (shM m')) : EV l prog_13_method_52_code "PrunedSearchModel" 5 none 3 100 [(0, vR 0)] [vI s0] (shM m) K' := by
  refine EV_istore_n (lv' := [(0, vR 0), (2, vI s0)]) [1, 0] d_M_write_100 rfl (by decide) rfl ?_
  exact ct_M_write_101 hL14 H hK
theorem ct_M_write_14 {l : Launch} {K : Ob → Prop} {K' : Option AV → List AC → Prop} (hK : ∀ (m' : Ob), K m' → K' none (shM m')) : ∀ (n : Nat) (x2 : Int) (m : Ob), M_write_14 n x2 m K → EV l prog_13_method_52_code "PrunedSearchModel" 5 none 3 14 [(0, vR 0), (2, vI x2)] [] (shM m) K' := by
  intro n
  induction n with
  | zero =>
    intro x2 m H
    exact H.elim
  | succ n ih =>
    intro x2 m H
    refine EV_iload_n 1 d_M_write_14 rfl rfl ?_
    refine EV_if_le (tgt := 104) d_M_write_15 (by decide) (fun hc => ?_) (fun hc => ?_)
    · have H := H.1 hc
      exact EV_vret d_M_write_104 rfl (hK _ H)
    · have H := H.2 hc
      refine EV_iload_n 1 d_M_write_18 rfl rfl ?_
      refine EV_iconst d_M_write_19 ⟨by decide, by decide⟩ ?_
      obtain ⟨hr, H⟩ := H
      refine EV_isub d_M_write_20 hr ?_
      refine EV_istore_n (lv' := [(0, vR 0), (2, vI (x2 - 3))]) [1, 0] d_M_write_21 rfl (by decide) rfl ?_
      refine EV_aload_n 0 d_M_write_22 rfl rfl ?_
      refine EV_get (j := 50) d_M_write_23 shM_0 rfl fI11 (by decide) k_1018 rfl ?_
      refine EV_iload_n 1 d_M_write_26 rfl rfl ?_
      obtain ⟨hi, H⟩ := H
      refine EV_iald d_M_write_27 shM_29 hi ?_
      refine EV_istore_n (lv' := [(0, vR 0), (2, vI (x2 - 3)), (3, vI (m.2.1 24 (x2 - 3)))]) [1, 2, 0] d_M_write_28 rfl (by decide) rfl ?_
      refine EV_aload_n 0 d_M_write_29 rfl rfl ?_
      refine EV_get (j := 50) d_M_write_30 shM_0 rfl fI11 (by decide) k_1018 rfl ?_
      refine EV_iload_n 1 d_M_write_33 rfl rfl ?_
      refine EV_iconst d_M_write_34 ⟨by decide, by decide⟩ ?_
      obtain ⟨hr, H⟩ := H
      refine EV_iadd d_M_write_35 hr ?_
      obtain ⟨hi, H⟩ := H
      refine EV_iald d_M_write_36 shM_29 hi ?_
      refine EV_istore (lv' := [(0, vR 0), (2, vI (x2 - 3)), (3, vI (m.2.1 24 (x2 - 3))), (4, vI (m.2.1 24 ((x2 - 3) + 1)))]) [1, 2, 3, 0] d_M_write_37 (by decide) rfl ?_
      refine EV_iload_n 2 d_M_write_39 rfl rfl ?_
      refine EV_iconst d_M_write_40 ⟨by decide, by decide⟩ ?_
      refine EV_icmp_ne (tgt := 53) d_M_write_41 (by decide) (fun hc => ?_) (fun hc => ?_)
      · have H := H.1 hc
        refine EV_aload_n 0 d_M_write_53 rfl rfl ?_
        refine EV_iload 3 d_M_write_54 rfl ?_
        refine EV_aload_n 0 d_M_write_56 rfl rfl ?_
        refine EV_get (j := 50) d_M_write_57 shM_0 rfl fI11 (by decide) k_1018 rfl ?_
        refine EV_iload_n 1 d_M_write_60 rfl rfl ?_
        refine EV_iconst d_M_write_61 ⟨by decide, by decide⟩ ?_
        obtain ⟨hr, H⟩ := H
        refine EV_iadd d_M_write_62 hr ?_
        obtain ⟨hi, H⟩ := H
        refine EV_iald d_M_write_63 shM_29 hi ?_
        refine EV_callV (as := [vI (m.2.1 24 ((x2 - 3) + 1)), vI (m.2.1 24 ((x2 - 3) + 2))]) (st := []) d_M_write_64 k_1264 k_1266 kp_67 k_12 k_1267 shM_0 rfl pd_23 ⟨by decide, by decide, Nat.le_of_ble_eq_true rfl⟩ rfl (ct_M_follow H (fun m_3 H => ?_))
        refine EV_iload_n 2 d_M_write_67 rfl rfl ?_
        refine EV_if_ne (tgt := 87) d_M_write_68 (by decide) (fun hc => ?_) (fun hc => ?_)
        · have H := H.1 hc
          refine EV_aload_n 0 d_M_write_87 rfl rfl ?_
          refine EV_aload_n 0 d_M_write_88 rfl rfl ?_
          refine EV_get (j := 48) d_M_write_89 shM_0 rfl fI11 (by decide) k_1016 rfl ?_
          refine EV_aload_n 0 d_M_write_92 rfl rfl ?_
          refine EV_get (j := 49) d_M_write_93 shM_0 rfl fI11 (by decide) k_1017 rfl ?_
          refine EV_iload_n 1 d_M_write_96 rfl rfl ?_
          refine EV_callV (as := [vI (m_3.1 19), vI (m_3.1 20), vI (x2 - 3)]) (st := []) d_M_write_97 k_1340 k_1342 kp_85 k_12 k_1343 shM_0 rfl pd_44 ⟨by decide, by decide, Nat.le_of_ble_eq_true rfl⟩ rfl (ct_M_writeRest H (fun r_5 m_4 H => ?_))
          refine EV_lv (lv' := [(0, vR 0)]) [0] rfl ?_
          exact ct_M_write_100 (fun x2 m' H => ih x2 m' H) H hK
        · have H := H.2 hc
          refine EV_aload_n 0 d_M_write_71 rfl rfl ?_
          refine EV_aload_n 0 d_M_write_72 rfl rfl ?_
          refine EV_get (j := 48) d_M_write_73 shM_0 rfl fI11 (by decide) k_1016 rfl ?_
          refine EV_aload_n 0 d_M_write_76 rfl rfl ?_
          refine EV_get (j := 49) d_M_write_77 shM_0 rfl fI11 (by decide) k_1017 rfl ?_
          refine EV_iload_n 1 d_M_write_80 rfl rfl ?_
          refine EV_callV (as := [vI (m_3.1 19), vI (m_3.1 20), vI (x2 - 3)]) (st := []) d_M_write_81 k_1328 k_1330 kp_82 k_12 k_1331 shM_0 rfl pd_45 ⟨by decide, by decide, Nat.le_of_ble_eq_true rfl⟩ rfl (ct_M_writeTerm H (fun r_7 m_6 H => ?_))
          refine EV_goto (tgt := 100) d_M_write_84 (by decide) ?_
          refine EV_lv (lv' := [(0, vR 0)]) [0] rfl ?_
          exact ct_M_write_100 (fun x2 m' H => ih x2 m' H) H hK
      · have H := H.2 hc
        refine EV_aload_n 0 d_M_write_44 rfl rfl ?_
        refine EV_iload 3 d_M_write_45 rfl ?_
        refine EV_callV (as := [vI (m.2.1 24 ((x2 - 3) + 1))]) (st := []) d_M_write_47 k_1324 k_1326 kp_81 k_12 k_1327 shM_0 rfl pd_40 ⟨by decide, by decide, Nat.le_of_ble_eq_true rfl⟩ rfl (ct_M_put H (fun m_8 H => ?_))
        refine EV_goto (tgt := 101) d_M_write_50 (by decide) ?_
        refine EV_lv (lv' := [(0, vR 0), (2, vI (x2 - 3))]) [0, 1] rfl ?_
        exact ct_M_write_101 (fun x2 m' H => ih x2 m' H) H hK
theorem ct_M_write {l : Launch} {m : Ob} {x1 : Int} {K : Ob → Prop} {K' : Option AV → List AC → Prop} (H : wp_M_write x1 m K) (hK : ∀ (m' : Ob), K m' → K' none (shM m')) : MT l ⟨"PrunedSearchModel", "write", "(I)V"⟩ prog_13_method_52_code 5 none 3 [vR 0, vI x1] (shM m) K' := by
  unfold wp_M_write at H
  refine MT_of (lv := [(0, vR 0), (1, vI x1)]) rfl rfl (Nat.le_of_ble_eq_true rfl) rfl ?_
  refine EV_aload_n 0 d_M_write_0 rfl rfl ?_
  refine EV_iconst d_M_write_1 ⟨by decide, by decide⟩ ?_
  refine EV_put (j := 52) d_M_write_2 shM_0 rfl fI11 fO11 fN11 (by decide) k_1020 rfl rfl (fun ad => nf_int ad _) (Nat.le_of_ble_eq_true rfl) shM_0_52 ?_
  refine EV_aload_n 0 d_M_write_5 rfl rfl ?_
  refine EV_iconst d_M_write_6 ⟨by decide, by decide⟩ ?_
  refine EV_iconst d_M_write_7 ⟨by decide, by decide⟩ ?_
  refine EV_iload_n 1 d_M_write_8 rfl rfl ?_
  refine EV_iconst d_M_write_9 ⟨by decide, by decide⟩ ?_
  refine EV_callV (as := [vI 0, vI 0, vI x1, vI 0]) (st := []) d_M_write_10 k_1320 k_1322 kp_80 k_12 k_1323 shM_0 rfl pd_41 ⟨by decide, by decide, Nat.le_of_ble_eq_true rfl⟩ rfl (ct_M_later H (fun r_2 m_1 H => ?_))
  refine EV_istore_n (lv' := [(0, vR 0), (1, vI x1), (2, vI r_2)]) [1, 2, 0] d_M_write_13 rfl (by decide) rfl ?_
  refine EV_lv (lv' := [(0, vR 0), (2, vI r_2)]) [0, 2] rfl ?_
  obtain ⟨n, H⟩ := H
  exact ct_M_write_14 hK n r_2 m_1 H
theorem ct_M_answer_76 {l : Launch} {K : Int → Ob → Prop} {K' : Option AV → List AC → Prop} {x2 : Int} {m : Ob} (H : M_answer_76 x2 m K) (hK : ∀ (r : Int) (m' : Ob), K r m' → K' (some (vI r)) (shM m')) : EV l prog_13_method_53_code "PrunedSearchModel" 4 (some .char) 4 76 [(0, vR 0), (2, vI x2)] [] (shM m) K' := by
  refine EV_iload_n 1 d_M_answer_76 rfl rfl ?_
  refine EV_aload_n 0 d_M_answer_77 rfl rfl ?_
  refine EV_get (j := 52) d_M_answer_78 shM_0 rfl fI11 (by decide) k_1020 rfl ?_
  refine EV_icmp_ge (tgt := 94) d_M_answer_81 (by decide) (fun hc => ?_) (fun hc => ?_)
  · have H := H.1 hc
    refine EV_iconst d_M_answer_94 ⟨by decide, by decide⟩ ?_
    exact EV_iret d_M_answer_95 rfl (nw_char ⟨by decide, by decide⟩) (hK _ _ H)
  · have H := H.2 hc
    refine EV_aload_n 0 d_M_answer_84 rfl rfl ?_
    refine EV_get (j := 51) d_M_answer_85 shM_0 rfl fI11 (by decide) k_1019 rfl ?_
    refine EV_iload_n 1 d_M_answer_88 rfl rfl ?_
    obtain ⟨hi, H⟩ := H
    refine EV_iald d_M_answer_89 shM_30 hi ?_
    obtain ⟨h0, H⟩ := H
    refine EV_i2c d_M_answer_90 h0 ?_
    refine EV_goto (tgt := 95) d_M_answer_91 (by decide) ?_
    obtain ⟨hb, H⟩ := H
    exact EV_iret d_M_answer_95 rfl (nw_char hb) (hK _ _ H)
theorem ct_M_answer_55 {l : Launch} {K : Int → Ob → Prop} {K' : Option AV → List AC → Prop} (hK : ∀ (r : Int) (m' : Ob), K r m' → K' (some (vI r)) (shM m')) : ∀ (n : Nat) (x1 : Int) (x2 : Int) (x3 : Int) (m : Ob), M_answer_55 n x1 x2 x3 m K → EV l prog_13_method_53_code "PrunedSearchModel" 4 (some .char) 4 55 [(0, vR 0), (1, vI x1), (2, vI x2), (3, vI x3)] [] (shM m) K' := by
  intro n
  induction n with
  | zero =>
    intro x1 x2 x3 m H
    exact H.elim
  | succ n ih =>
    intro x1 x2 x3 m H
    refine EV_iload_n 3 d_M_answer_55 rfl rfl ?_
    refine EV_iload_n 1 d_M_answer_56 rfl rfl ?_
    refine EV_icmp_gt (tgt := 76) d_M_answer_57 (by decide) (fun hc => ?_) (fun hc => ?_)
    · have H := H.1 hc
      refine EV_lv (lv' := [(0, vR 0), (2, vI x2)]) [0, 2] rfl ?_
      exact ct_M_answer_76 H hK
    · have H := H.2 hc
      refine EV_aload_n 0 d_M_answer_60 rfl rfl ?_
      refine EV_aload_n 0 d_M_answer_61 rfl rfl ?_
      refine EV_get (j := 32) d_M_answer_62 shM_0 rfl fI11 (by decide) k_1000 rfl ?_
      refine EV_iload_n 3 d_M_answer_65 rfl rfl ?_
      obtain ⟨hi, H⟩ := H
      refine EV_iald d_M_answer_66 shM_19 hi ?_
      refine EV_callV (as := [vI (m.2.1 14 x3)]) (st := []) d_M_answer_67 k_1316 k_1318 kp_79 k_12 k_1319 shM_0 rfl pd_46 ⟨by decide, by decide, Nat.le_of_ble_eq_true rfl⟩ rfl (ct_M_write H (fun m_1 H => ?_))
      obtain ⟨hr, H⟩ := H
      refine EV_iinc (lv' := [(0, vR 0), (1, vI x1), (2, vI x2), (3, vI (x3 + 1))]) 3 [1, 2, 3, 0] d_M_answer_70 rfl (by decide) hr rfl ?_
      refine EV_goto (tgt := 55) d_M_answer_73 (by decide) ?_
      exact ih x1 x2 (x3 + 1) m_1 H
theorem ct_M_answer_48 {l : Launch} {K : Int → Ob → Prop} {K' : Option AV → List AC → Prop} {x1 : Int} {x2 : Int} {m : Ob} (H : M_answer_48 x1 x2 m K) (hK : ∀ (r : Int) (m' : Ob), K r m' → K' (some (vI r)) (shM m')) : EV l prog_13_method_53_code "PrunedSearchModel" 4 (some .char) 4 48 [(0, vR 0), (1, vI x1), (2, vI x2)] [] (shM m) K' := by
  refine EV_aload_n 0 d_M_answer_48 rfl rfl ?_
  refine EV_iconst d_M_answer_49 ⟨by decide, by decide⟩ ?_
  refine EV_put (j := 54) d_M_answer_50 shM_0 rfl fI11 fO11 fN11 (by decide) k_1022 rfl rfl (fun ad => nf_int ad _) (Nat.le_of_ble_eq_true rfl) shM_0_54 ?_
  refine EV_iconst d_M_answer_53 ⟨by decide, by decide⟩ ?_
  refine EV_istore_n (lv' := [(0, vR 0), (1, vI x1), (2, vI x2), (3, vI 0)]) [1, 2, 3, 0] d_M_answer_54 rfl (by decide) rfl ?_
  obtain ⟨n, H⟩ := H
  exact ct_M_answer_55 hK n x1 x2 0 (sI m 22 0) H
theorem ct_M_answer_28 {l : Launch} {K : Int → Ob → Prop} {K' : Option AV → List AC → Prop} (hK : ∀ (r : Int) (m' : Ob), K r m' → K' (some (vI r)) (shM m')) : ∀ (n : Nat) (x1 : Int) (x2 : Int) (x3 : Int) (m : Ob), M_answer_28 n x1 x2 x3 m K → EV l prog_13_method_53_code "PrunedSearchModel" 4 (some .char) 4 28 [(0, vR 0), (1, vI x1), (2, vI x2), (3, vI x3)] [] (shM m) K' := by
  intro n
  induction n with
  | zero =>
    intro x1 x2 x3 m H
    exact H.elim
  | succ n ih =>
    intro x1 x2 x3 m H
    refine EV_iload_n 3 d_M_answer_28 rfl rfl ?_
    refine EV_sipush d_M_answer_29 (by decide +kernel) ⟨by decide, by decide⟩ ?_
    refine EV_icmp_ge (tgt := 48) d_M_answer_32 (by decide) (fun hc => ?_) (fun hc => ?_)
    · have H := H.1 hc
      refine EV_lv (lv' := [(0, vR 0), (1, vI x1), (2, vI x2)]) [0, 1, 2] rfl ?_
      exact ct_M_answer_48 H hK
    · have H := H.2 hc
      refine EV_aload_n 0 d_M_answer_35 rfl rfl ?_
      refine EV_get (j := 53) d_M_answer_36 shM_0 rfl fI11 (by decide) k_1021 rfl ?_
      refine EV_iload_n 3 d_M_answer_39 rfl rfl ?_
      refine EV_iconst d_M_answer_40 ⟨by decide, by decide⟩ ?_
      obtain ⟨hi, H⟩ := H
      refine EV_iast d_M_answer_41 shM_31 hi shM_31_s ?_
      obtain ⟨hr, H⟩ := H
      refine EV_iinc (lv' := [(0, vR 0), (1, vI x1), (2, vI x2), (3, vI (x3 + 1))]) 3 [1, 2, 3, 0] d_M_answer_42 rfl (by decide) hr rfl ?_
      refine EV_goto (tgt := 28) d_M_answer_45 (by decide) ?_
      exact ih x1 x2 (x3 + 1) (sA m 26 x3 (-1)) H
theorem ct_M_answer {l : Launch} {m : Ob} {x1 : Int} {x2 : Int} {K : Int → Ob → Prop} {K' : Option AV → List AC → Prop} (H : wp_M_answer x1 x2 m K) (hK : ∀ (r : Int) (m' : Ob), K r m' → K' (some (vI r)) (shM m')) : MT l ⟨"PrunedSearchModel", "answer", "(II)C"⟩ prog_13_method_53_code 4 (some .char) 4 [vR 0, vI x1, vI x2] (shM m) K' := by
  unfold wp_M_answer at H
  refine MT_of (lv := [(0, vR 0), (1, vI x1), (2, vI x2)]) rfl rfl (Nat.le_of_ble_eq_true rfl) rfl ?_
  refine EV_aload_n 0 d_M_answer_0 rfl rfl ?_
  refine EV_get (j := 33) d_M_answer_1 shM_0 rfl fI11 (by decide) k_1001 rfl ?_
  refine EV_iconst d_M_answer_4 ⟨by decide, by decide⟩ ?_
  refine EV_icmp_ne (tgt := 24) d_M_answer_5 (by decide) (fun hc => ?_) (fun hc => ?_)
  · have H := H.1 hc
    refine EV_iconst d_M_answer_24 ⟨by decide, by decide⟩ ?_
    exact EV_iret d_M_answer_25 rfl (nw_char ⟨by decide, by decide⟩) (hK _ _ H)
  · have H := H.2 hc
    refine EV_iload_n 1 d_M_answer_8 rfl rfl ?_
    refine EV_if_lt (tgt := 24) d_M_answer_9 (by decide) (fun hc => ?_) (fun hc => ?_)
    · have H := H.1 hc
      refine EV_iconst d_M_answer_24 ⟨by decide, by decide⟩ ?_
      exact EV_iret d_M_answer_25 rfl (nw_char ⟨by decide, by decide⟩) (hK _ _ H)
    · have H := H.2 hc
      refine EV_iload_n 1 d_M_answer_12 rfl rfl ?_
      refine EV_aload_n 0 d_M_answer_13 rfl rfl ?_
      refine EV_get (j := 31) d_M_answer_14 shM_0 rfl fI11 (by decide) k_999 rfl ?_
      refine EV_icmp_ge (tgt := 24) d_M_answer_17 (by decide) (fun hc => ?_) (fun hc => ?_)
      · have H := H.1 hc
        refine EV_iconst d_M_answer_24 ⟨by decide, by decide⟩ ?_
        exact EV_iret d_M_answer_25 rfl (nw_char ⟨by decide, by decide⟩) (hK _ _ H)
      · have H := H.2 hc
        refine EV_iload_n 2 d_M_answer_20 rfl rfl ?_
        refine EV_if_ge (tgt := 26) d_M_answer_21 (by decide) (fun hc => ?_) (fun hc => ?_)
        · have H := H.1 hc
          refine EV_iconst d_M_answer_26 ⟨by decide, by decide⟩ ?_
          refine EV_istore_n (lv' := [(0, vR 0), (1, vI x1), (2, vI x2), (3, vI 0)]) [1, 2, 3, 0] d_M_answer_27 rfl (by decide) rfl ?_
          obtain ⟨n, H⟩ := H
          exact ct_M_answer_28 hK n x1 x2 0 m H
        · have H := H.2 hc
          refine EV_iconst d_M_answer_24 ⟨by decide, by decide⟩ ?_
          exact EV_iret d_M_answer_25 rfl (nw_char ⟨by decide, by decide⟩) (hK _ _ H)
theorem ct_M_clauses {l : Launch} {m : Ob} {K : Int → Prop} {K' : Option AV → List AC → Prop} (H : wp_M_clauses m K) (hK : ∀ (r : Int), K r → K' (some (vI r)) (shM m)) : MT l ⟨"PrunedSearchModel", "clauses", "()I"⟩ prog_13_method_54_code 1 (some .int) 0 [vR 0] (shM m) K' := by
  unfold wp_M_clauses at H
  refine MT_of (lv := [(0, vR 0)]) rfl rfl (Nat.le_of_ble_eq_true rfl) rfl ?_
  refine EV_aload_n 0 d_M_clauses_0 rfl rfl ?_
  refine EV_get (j := 25) d_M_clauses_1 shM_0 rfl fI11 (by decide) k_993 rfl ?_
  exact EV_iret d_M_clauses_4 rfl (nw_int _) (hK _ H)
theorem ct_M_tries {l : Launch} {m : Ob} {K : Int → Prop} {K' : Option AV → List AC → Prop} (H : wp_M_tries m K) (hK : ∀ (r : Int), K r → K' (some (vI r)) (shM m)) : MT l ⟨"PrunedSearchModel", "tries", "()I"⟩ prog_13_method_55_code 1 (some .int) 0 [vR 0] (shM m) K' := by
  unfold wp_M_tries at H
  refine MT_of (lv := [(0, vR 0)]) rfl rfl (Nat.le_of_ble_eq_true rfl) rfl ?_
  refine EV_aload_n 0 d_M_tries_0 rfl rfl ?_
  refine EV_get (j := 35) d_M_tries_1 shM_0 rfl fI11 (by decide) k_1003 rfl ?_
  exact EV_iret d_M_tries_4 rfl (nw_int _) (hK _ H)
theorem ct_M_choices {l : Launch} {m : Ob} {K : Int → Prop} {K' : Option AV → List AC → Prop} (H : wp_M_choices m K) (hK : ∀ (r : Int), K r → K' (some (vI r)) (shM m)) : MT l ⟨"PrunedSearchModel", "choices", "()I"⟩ prog_13_method_56_code 1 (some .int) 0 [vR 0] (shM m) K' := by
  unfold wp_M_choices at H
  refine MT_of (lv := [(0, vR 0)]) rfl rfl (Nat.le_of_ble_eq_true rfl) rfl ?_
  refine EV_aload_n 0 d_M_choices_0 rfl rfl ?_
  refine EV_get (j := 39) d_M_choices_1 shM_0 rfl fI11 (by decide) k_1007 rfl ?_
  exact EV_iret d_M_choices_4 rfl (nw_int _) (hK _ H)
theorem ct_M_length {l : Launch} {m : Ob} {K : Int → Prop} {K' : Option AV → List AC → Prop} (H : wp_M_length m K) (hK : ∀ (r : Int), K r → K' (some (vI r)) (shM m)) : MT l ⟨"PrunedSearchModel", "length", "()I"⟩ prog_13_method_57_code 1 (some .int) 0 [vR 0] (shM m) K' := by
  unfold wp_M_length at H
  refine MT_of (lv := [(0, vR 0)]) rfl rfl (Nat.le_of_ble_eq_true rfl) rfl ?_
  refine EV_aload_n 0 d_M_length_0 rfl rfl ?_
  refine EV_get (j := 36) d_M_length_1 shM_0 rfl fI11 (by decide) k_1004 rfl ?_
  exact EV_iret d_M_length_4 rfl (nw_int _) (hK _ H)
theorem ct_M_goals_27 {l : Launch} {m : Ob} {K : Int → Prop} {K' : Option AV → List AC → Prop} (H : M_goals_27 m K) (hK : ∀ (r : Int), K r → K' (some (vI r)) (shM m)) : EV l prog_13_method_58_code "PrunedSearchModel" 1 (some .int) 0 27 [(0, vR 0)] [] (shM m) K' := by
  refine EV_aload_n 0 d_M_goals_27 rfl rfl ?_
  refine EV_get (j := 42) d_M_goals_28 shM_0 rfl fI11 (by decide) k_1010 rfl ?_
  exact EV_iret d_M_goals_31 rfl (nw_int _) (hK _ H)
theorem ct_M_goals {l : Launch} {m : Ob} {K : Int → Prop} {K' : Option AV → List AC → Prop} (H : wp_M_goals m K) (hK : ∀ (r : Int), K r → K' (some (vI r)) (shM m)) : MT l ⟨"PrunedSearchModel", "goals", "()I"⟩ prog_13_method_58_code 1 (some .int) 0 [vR 0] (shM m) K' := by
  unfold wp_M_goals at H
  refine MT_of (lv := [(0, vR 0)]) rfl rfl (Nat.le_of_ble_eq_true rfl) rfl ?_
  refine EV_aload_n 0 d_M_goals_0 rfl rfl ?_
  refine EV_get (j := 33) d_M_goals_1 shM_0 rfl fI11 (by decide) k_1001 rfl ?_
  refine EV_iconst d_M_goals_4 ⟨by decide, by decide⟩ ?_
  refine EV_icmp_eq (tgt := 23) d_M_goals_5 (by decide) (fun hc => ?_) (fun hc => ?_)
  · have H := H.1 hc
    refine EV_iconst d_M_goals_23 ⟨by decide, by decide⟩ ?_
    refine EV_goto (tgt := 31) d_M_goals_24 (by decide) ?_
    exact EV_iret d_M_goals_31 rfl (nw_int _) (hK _ H)
  · have H := H.2 hc
    refine EV_aload_n 0 d_M_goals_8 rfl rfl ?_
    refine EV_get (j := 33) d_M_goals_9 shM_0 rfl fI11 (by decide) k_1001 rfl ?_
    refine EV_iconst d_M_goals_12 ⟨by decide, by decide⟩ ?_
    refine EV_icmp_ne (tgt := 27) d_M_goals_13 (by decide) (fun hc => ?_) (fun hc => ?_)
    · have H := H.1 hc
      exact ct_M_goals_27 H hK
    · have H := H.2 hc
      refine EV_aload_n 0 d_M_goals_16 rfl rfl ?_
      refine EV_get (j := 34) d_M_goals_17 shM_0 rfl fI11 (by decide) k_1002 rfl ?_
      refine EV_if_ne (tgt := 27) d_M_goals_20 (by decide) (fun hc => ?_) (fun hc => ?_)
      · have H := H.1 hc
        exact ct_M_goals_27 H hK
      · have H := H.2 hc
        refine EV_iconst d_M_goals_23 ⟨by decide, by decide⟩ ?_
        refine EV_goto (tgt := 31) d_M_goals_24 (by decide) ?_
        exact EV_iret d_M_goals_31 rfl (nw_int _) (hK _ H)
theorem ct_M_forget {l : Launch} {m : Ob} {K : Ob → Prop} {K' : Option AV → List AC → Prop} (H : wp_M_forget m K) (hK : ∀ (m' : Ob), K m' → K' none (shM m')) : MT l ⟨"PrunedSearchModel", "forget", "()V"⟩ prog_13_method_59_code 1 none 1 [vR 0] (shM m) K' := by
  unfold wp_M_forget at H
  refine MT_of (lv := [(0, vR 0)]) rfl rfl (Nat.le_of_ble_eq_true rfl) rfl ?_
  refine EV_aload_n 0 d_M_forget_0 rfl rfl ?_
  refine EV_iconst d_M_forget_1 ⟨by decide, by decide⟩ ?_
  refine EV_put (j := 25) d_M_forget_2 shM_0 rfl fI11 fO11 fN11 (by decide) k_993 rfl rfl (fun ad => nf_int ad _) (Nat.le_of_ble_eq_true rfl) shM_0_25 ?_
  refine EV_aload_n 0 d_M_forget_5 rfl rfl ?_
  refine EV_iconst d_M_forget_6 ⟨by decide, by decide⟩ ?_
  refine EV_put (j := 29) d_M_forget_7 shM_0 rfl fI11 fO11 fN11 (by decide) k_997 rfl rfl (fun ad => nf_int ad _) (Nat.le_of_ble_eq_true rfl) shM_0_29 ?_
  refine EV_aload_n 0 d_M_forget_10 rfl rfl ?_
  refine EV_callV (as := []) (st := []) d_M_forget_11 k_1202 k_1204 kp_54 k_12 k_1205 shM_0 rfl pd_18 ⟨by decide, by decide, Nat.le_of_ble_eq_true rfl⟩ rfl (ct_M_noSearch H (fun m_1 H => ?_))
  exact EV_vret d_M_forget_14 rfl (hK _ H)
