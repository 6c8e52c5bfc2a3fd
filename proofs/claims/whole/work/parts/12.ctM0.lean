/-! printed by wip/gen/drive.py -/
theorem ct_M_isSmall_12 {l : Launch} {o0 : Ob} {K : Int → Prop} {K' : Option AV → List AC → Prop} {x0 : Int} (H : M_isSmall_12 x0 K) (hK : ∀ (r : Int), K r → K' (some (vI r)) (shM o0)) : EV l prog_13_method_2_code "PrunedSearchModel" 1 (some .boolean) 0 12 [(0, vI x0)] [] (shM o0) K' := by
  refine EV_iload_n 0 d_M_isSmall_12 rfl rfl ?_
  refine EV_bipush d_M_isSmall_13 (by decide +kernel) ⟨by decide, by decide⟩ ?_
  refine EV_icmp_lt (tgt := 28) d_M_isSmall_15 (by decide) (fun hc => ?_) (fun hc => ?_)
  · have H := H.1 hc
    refine EV_iconst d_M_isSmall_28 ⟨by decide, by decide⟩ ?_
    exact EV_iret d_M_isSmall_29 rfl (nw_bool (by decide)) (hK _ H)
  · have H := H.2 hc
    refine EV_iload_n 0 d_M_isSmall_18 rfl rfl ?_
    refine EV_bipush d_M_isSmall_19 (by decide +kernel) ⟨by decide, by decide⟩ ?_
    refine EV_icmp_gt (tgt := 28) d_M_isSmall_21 (by decide) (fun hc => ?_) (fun hc => ?_)
    · have H := H.1 hc
      refine EV_iconst d_M_isSmall_28 ⟨by decide, by decide⟩ ?_
      exact EV_iret d_M_isSmall_29 rfl (nw_bool (by decide)) (hK _ H)
    · have H := H.2 hc
      refine EV_iconst d_M_isSmall_24 ⟨by decide, by decide⟩ ?_
      refine EV_goto (tgt := 29) d_M_isSmall_25 (by decide) ?_
      exact EV_iret d_M_isSmall_29 rfl (nw_bool (by decide)) (hK _ H)
theorem ct_M_isSmall {l : Launch} {o0 : Ob} {x0 : Int} {K : Int → Prop} {K' : Option AV → List AC → Prop} (H : wp_M_isSmall x0 K) (hK : ∀ (r : Int), K r → K' (some (vI r)) (shM o0)) : MT l ⟨"PrunedSearchModel", "isSmall", "(I)Z"⟩ prog_13_method_2_code 1 (some .boolean) 0 [vI x0] (shM o0) K' := by
  unfold wp_M_isSmall at H
  refine MT_of (lv := [(0, vI x0)]) rfl rfl (Nat.le_of_ble_eq_true rfl) rfl ?_
  refine EV_iload_n 0 d_M_isSmall_0 rfl rfl ?_
  refine EV_bipush d_M_isSmall_1 (by decide +kernel) ⟨by decide, by decide⟩ ?_
  refine EV_icmp_lt (tgt := 12) d_M_isSmall_3 (by decide) (fun hc => ?_) (fun hc => ?_)
  · have H := H.1 hc
    exact ct_M_isSmall_12 H hK
  · have H := H.2 hc
    refine EV_iload_n 0 d_M_isSmall_6 rfl rfl ?_
    refine EV_bipush d_M_isSmall_7 (by decide +kernel) ⟨by decide, by decide⟩ ?_
    refine EV_icmp_le (tgt := 24) d_M_isSmall_9 (by decide) (fun hc => ?_) (fun hc => ?_)
    · have H := H.1 hc
      refine EV_iconst d_M_isSmall_24 ⟨by decide, by decide⟩ ?_
      refine EV_goto (tgt := 29) d_M_isSmall_25 (by decide) ?_
      exact EV_iret d_M_isSmall_29 rfl (nw_bool (by decide)) (hK _ H)
    · have H := H.2 hc
      exact ct_M_isSmall_12 H hK
theorem ct_M_isWord_19 {l : Launch} {o0 : Ob} {K : Int → Prop} {K' : Option AV → List AC → Prop} {x0 : Int} (H : M_isWord_19 x0 K) (hK : ∀ (r : Int), K r → K' (some (vI r)) (shM o0)) : EV l prog_13_method_3_code "PrunedSearchModel" 1 (some .boolean) 1 19 [(0, vI x0)] [] (shM o0) K' := by
  refine EV_iload_n 0 d_M_isWord_19 rfl rfl ?_
  refine EV_bipush d_M_isWord_20 (by decide +kernel) ⟨by decide, by decide⟩ ?_
  refine EV_icmp_ne (tgt := 29) d_M_isWord_22 (by decide) (fun hc => ?_) (fun hc => ?_)
  · have H := H.1 hc
    refine EV_iconst d_M_isWord_29 ⟨by decide, by decide⟩ ?_
    exact EV_iret d_M_isWord_30 rfl (nw_bool (by decide)) (hK _ H)
  · have H := H.2 hc
    refine EV_iconst d_M_isWord_25 ⟨by decide, by decide⟩ ?_
    refine EV_goto (tgt := 30) d_M_isWord_26 (by decide) ?_
    exact EV_iret d_M_isWord_30 rfl (nw_bool (by decide)) (hK _ H)
theorem ct_M_isWord {l : Launch} {o0 : Ob} {x0 : Int} {K : Int → Prop} {K' : Option AV → List AC → Prop} (H : wp_M_isWord x0 K) (hK : ∀ (r : Int), K r → K' (some (vI r)) (shM o0)) : MT l ⟨"PrunedSearchModel", "isWord", "(I)Z"⟩ prog_13_method_3_code 1 (some .boolean) 1 [vI x0] (shM o0) K' := by
  unfold wp_M_isWord at H
  refine MT_of (lv := [(0, vI x0)]) rfl rfl (Nat.le_of_ble_eq_true rfl) rfl ?_
  refine EV_iload_n 0 d_M_isWord_0 rfl rfl ?_
  refine EV_callT (as := [vI x0]) (st := []) d_M_isWord_1 k_1142 k_1143 k_12 k_1144 pd_0 ⟨by decide, by decide, Nat.le_of_ble_eq_true rfl⟩ rfl (ct_M_isSmall H (fun r_1 H => ?_))
  refine EV_if_ne (tgt := 25) d_M_isWord_4 (by decide) (fun hc => ?_) (fun hc => ?_)
  · have H := H.1 hc
    refine EV_iconst d_M_isWord_25 ⟨by decide, by decide⟩ ?_
    refine EV_goto (tgt := 30) d_M_isWord_26 (by decide) ?_
    exact EV_iret d_M_isWord_30 rfl (nw_bool (by decide)) (hK _ H)
  · have H := H.2 hc
    refine EV_iload_n 0 d_M_isWord_7 rfl rfl ?_
    refine EV_bipush d_M_isWord_8 (by decide +kernel) ⟨by decide, by decide⟩ ?_
    refine EV_icmp_lt (tgt := 19) d_M_isWord_10 (by decide) (fun hc => ?_) (fun hc => ?_)
    · have H := H.1 hc
      exact ct_M_isWord_19 H hK
    · have H := H.2 hc
      refine EV_iload_n 0 d_M_isWord_13 rfl rfl ?_
      refine EV_bipush d_M_isWord_14 (by decide +kernel) ⟨by decide, by decide⟩ ?_
      refine EV_icmp_le (tgt := 25) d_M_isWord_16 (by decide) (fun hc => ?_) (fun hc => ?_)
      · have H := H.1 hc
        refine EV_iconst d_M_isWord_25 ⟨by decide, by decide⟩ ?_
        refine EV_goto (tgt := 30) d_M_isWord_26 (by decide) ?_
        exact EV_iret d_M_isWord_30 rfl (nw_bool (by decide)) (hK _ H)
      · have H := H.2 hc
        exact ct_M_isWord_19 H hK
theorem ct_M_isSign {l : Launch} {o0 : Ob} {x0 : Int} {K : Int → Prop} {K' : Option AV → List AC → Prop} (H : wp_M_isSign x0 K) (hK : ∀ (r : Int), K r → K' (some (vI r)) (shM o0)) : MT l ⟨"PrunedSearchModel", "isSign", "(I)Z"⟩ prog_13_method_4_code 1 (some .boolean) 0 [vI x0] (shM o0) K' := by
  unfold wp_M_isSign at H
  refine MT_of (lv := [(0, vI x0)]) rfl rfl (Nat.le_of_ble_eq_true rfl) rfl ?_
  refine EV_iload_n 0 d_M_isSign_0 rfl rfl ?_
  refine EV_bipush d_M_isSign_1 (by decide +kernel) ⟨by decide, by decide⟩ ?_
  refine EV_icmp_eq (tgt := 60) d_M_isSign_3 (by decide) (fun hc => ?_) (fun hc => ?_)
  · have H := H.1 hc
    refine EV_iconst d_M_isSign_60 ⟨by decide, by decide⟩ ?_
    refine EV_goto (tgt := 65) d_M_isSign_61 (by decide) ?_
    exact EV_iret d_M_isSign_65 rfl (nw_bool (by decide)) (hK _ H)
  · have H := H.2 hc
    refine EV_iload_n 0 d_M_isSign_6 rfl rfl ?_
    refine EV_bipush d_M_isSign_7 (by decide +kernel) ⟨by decide, by decide⟩ ?_
    refine EV_icmp_eq (tgt := 60) d_M_isSign_9 (by decide) (fun hc => ?_) (fun hc => ?_)
    · have H := H.1 hc
      refine EV_iconst d_M_isSign_60 ⟨by decide, by decide⟩ ?_
      refine EV_goto (tgt := 65) d_M_isSign_61 (by decide) ?_
      exact EV_iret d_M_isSign_65 rfl (nw_bool (by decide)) (hK _ H)
    · have H := H.2 hc
      refine EV_iload_n 0 d_M_isSign_12 rfl rfl ?_
      refine EV_bipush d_M_isSign_13 (by decide +kernel) ⟨by decide, by decide⟩ ?_
      refine EV_icmp_eq (tgt := 60) d_M_isSign_15 (by decide) (fun hc => ?_) (fun hc => ?_)
      · have H := H.1 hc
        refine EV_iconst d_M_isSign_60 ⟨by decide, by decide⟩ ?_
        refine EV_goto (tgt := 65) d_M_isSign_61 (by decide) ?_
        exact EV_iret d_M_isSign_65 rfl (nw_bool (by decide)) (hK _ H)
      · have H := H.2 hc
        refine EV_iload_n 0 d_M_isSign_18 rfl rfl ?_
        refine EV_bipush d_M_isSign_19 (by decide +kernel) ⟨by decide, by decide⟩ ?_
        refine EV_icmp_eq (tgt := 60) d_M_isSign_21 (by decide) (fun hc => ?_) (fun hc => ?_)
        · have H := H.1 hc
          refine EV_iconst d_M_isSign_60 ⟨by decide, by decide⟩ ?_
          refine EV_goto (tgt := 65) d_M_isSign_61 (by decide) ?_
          exact EV_iret d_M_isSign_65 rfl (nw_bool (by decide)) (hK _ H)
        · have H := H.2 hc
          refine EV_iload_n 0 d_M_isSign_24 rfl rfl ?_
          refine EV_bipush d_M_isSign_25 (by decide +kernel) ⟨by decide, by decide⟩ ?_
          refine EV_icmp_eq (tgt := 60) d_M_isSign_27 (by decide) (fun hc => ?_) (fun hc => ?_)
          · have H := H.1 hc
            refine EV_iconst d_M_isSign_60 ⟨by decide, by decide⟩ ?_
            refine EV_goto (tgt := 65) d_M_isSign_61 (by decide) ?_
            exact EV_iret d_M_isSign_65 rfl (nw_bool (by decide)) (hK _ H)
          · have H := H.2 hc
            refine EV_iload_n 0 d_M_isSign_30 rfl rfl ?_
            refine EV_bipush d_M_isSign_31 (by decide +kernel) ⟨by decide, by decide⟩ ?_
            refine EV_icmp_eq (tgt := 60) d_M_isSign_33 (by decide) (fun hc => ?_) (fun hc => ?_)
            · have H := H.1 hc
              refine EV_iconst d_M_isSign_60 ⟨by decide, by decide⟩ ?_
              refine EV_goto (tgt := 65) d_M_isSign_61 (by decide) ?_
              exact EV_iret d_M_isSign_65 rfl (nw_bool (by decide)) (hK _ H)
            · have H := H.2 hc
              refine EV_iload_n 0 d_M_isSign_36 rfl rfl ?_
              refine EV_bipush d_M_isSign_37 (by decide +kernel) ⟨by decide, by decide⟩ ?_
              refine EV_icmp_eq (tgt := 60) d_M_isSign_39 (by decide) (fun hc => ?_) (fun hc => ?_)
              · have H := H.1 hc
                refine EV_iconst d_M_isSign_60 ⟨by decide, by decide⟩ ?_
                refine EV_goto (tgt := 65) d_M_isSign_61 (by decide) ?_
                exact EV_iret d_M_isSign_65 rfl (nw_bool (by decide)) (hK _ H)
              · have H := H.2 hc
                refine EV_iload_n 0 d_M_isSign_42 rfl rfl ?_
                refine EV_bipush d_M_isSign_43 (by decide +kernel) ⟨by decide, by decide⟩ ?_
                refine EV_icmp_eq (tgt := 60) d_M_isSign_45 (by decide) (fun hc => ?_) (fun hc => ?_)
                · have H := H.1 hc
                  refine EV_iconst d_M_isSign_60 ⟨by decide, by decide⟩ ?_
                  refine EV_goto (tgt := 65) d_M_isSign_61 (by decide) ?_
                  exact EV_iret d_M_isSign_65 rfl (nw_bool (by decide)) (hK _ H)
                · have H := H.2 hc
                  refine EV_iload_n 0 d_M_isSign_48 rfl rfl ?_
                  refine EV_bipush d_M_isSign_49 (by decide +kernel) ⟨by decide, by decide⟩ ?_
                  refine EV_icmp_eq (tgt := 60) d_M_isSign_51 (by decide) (fun hc => ?_) (fun hc => ?_)
                  · have H := H.1 hc
                    refine EV_iconst d_M_isSign_60 ⟨by decide, by decide⟩ ?_
                    refine EV_goto (tgt := 65) d_M_isSign_61 (by decide) ?_
                    exact EV_iret d_M_isSign_65 rfl (nw_bool (by decide)) (hK _ H)
                  · have H := H.2 hc
                    refine EV_iload_n 0 d_M_isSign_54 rfl rfl ?_
                    refine EV_bipush d_M_isSign_55 (by decide +kernel) ⟨by decide, by decide⟩ ?_
                    refine EV_icmp_ne (tgt := 64) d_M_isSign_57 (by decide) (fun hc => ?_) (fun hc => ?_)
                    · have H := H.1 hc
                      refine EV_iconst d_M_isSign_64 ⟨by decide, by decide⟩ ?_
                      exact EV_iret d_M_isSign_65 rfl (nw_bool (by decide)) (hK _ H)
                    · have H := H.2 hc
                      refine EV_iconst d_M_isSign_60 ⟨by decide, by decide⟩ ?_
                      refine EV_goto (tgt := 65) d_M_isSign_61 (by decide) ?_
                      exact EV_iret d_M_isSign_65 rfl (nw_bool (by decide)) (hK _ H)
theorem ct_M_type_85 {l : Launch} {K : Int → Ob → Prop} {K' : Option AV → List AC → Prop} (hK : ∀ (r : Int) (m' : Ob), K r m' → K' (some (vI r)) (shM m')) : ∀ (n : Nat) (y1 : Nat) (x3 : Int) (x4 : Int) (m : Ob), M_type_85 n y1 x3 x4 m K → EV l prog_13_method_5_code "PrunedSearchModel" 5 (some .boolean) 2 85 [(0, vR 0), (1, vL y1), (3, vI x3), (4, vI x4)] [] (shM m) K' := by
  intro n
  induction n with
  | zero =>
    intro y1 x3 x4 m H
    exact H.elim
  | succ n ih =>
    intro y1 x3 x4 m H
    refine EV_iload 3 d_M_type_85 rfl ?_
    refine EV_iload_n 2 d_M_type_87 rfl rfl ?_
    refine EV_icmp_ge (tgt := 128) d_M_type_88 (by decide) (fun hc => ?_) (fun hc => ?_)
    · have H := H.1 hc
      refine EV_iconst d_M_type_128 ⟨by decide, by decide⟩ ?_
      exact EV_iret d_M_type_129 rfl (nw_bool (by decide)) (hK _ _ H)
    · have H := H.2 hc
      refine EV_aload_n 0 d_M_type_91 rfl rfl ?_
      refine EV_get (j := 0) d_M_type_92 shM_0 rfl fI11 (by decide) k_968 rfl ?_
      refine EV_aload_n 0 d_M_type_95 rfl rfl ?_
      refine EV_get (j := 1) d_M_type_96 shM_0 rfl fI11 (by decide) k_969 rfl ?_
      refine EV_lload_n 1 d_M_type_99 rfl rfl ?_
      refine EV_bipush d_M_type_100 (by decide +kernel) ⟨by decide, by decide⟩ ?_
      refine EV_iload 3 d_M_type_102 rfl ?_
      obtain ⟨hr, H⟩ := H
      refine EV_imul d_M_type_104 hr ?_
      obtain ⟨h1, H⟩ := H
      refine EV_lshr d_M_type_105 h1 ?_
      refine EV_ldc2 (n := 255) d_M_type_106 k_1138 (by decide +kernel) (by decide) ?_
      refine EV_land d_M_type_109 ?_
      obtain ⟨h0, H⟩ := H
      refine EV_l2i d_M_type_110 h0 ?_
      obtain ⟨hi, H⟩ := H
      refine EV_iast d_M_type_111 shM_1 hi shM_1_s ?_
      refine EV_aload_n 0 d_M_type_112 rfl rfl ?_
      refine EV_aload_n 0 d_M_type_113 rfl rfl ?_
      refine EV_get (j := 1) d_M_type_114 shM_0 rfl fI11 (by decide) k_969 rfl ?_
      refine EV_iconst d_M_type_117 ⟨by decide, by decide⟩ ?_
      obtain ⟨hr, H⟩ := H
      refine EV_iadd d_M_type_118 hr ?_
      refine EV_put (j := 1) d_M_type_119 shM_0 rfl fI11 fO11 fN11 (by decide) k_969 rfl rfl (fun ad => nf_int ad _) (Nat.le_of_ble_eq_true rfl) shM_0_1 ?_
      obtain ⟨hr, H⟩ := H
      refine EV_iinc (lv' := [(0, vR 0), (1, vL y1), (3, vI x3), (4, vI (x4 + 1))]) 3 [1, 2, 3, 0] d_M_type_122 rfl (by decide) hr rfl ?_
      refine EV_goto (tgt := 85) d_M_type_125 (by decide) ?_
      exact ih y1 x3 (x4 + 1) (sI (sA m 0 (m.1 0) (((sar y1 (8 * x4).toNat) &&& 255 : Nat) : Int)) 0 ((m.1 0) + 1)) H
theorem ct_M_type_68 {l : Launch} {K : Int → Ob → Prop} {K' : Option AV → List AC → Prop} {y1 : Nat} {x3 : Int} {m : Ob} (H : M_type_68 y1 x3 m K) (hK : ∀ (r : Int) (m' : Ob), K r m' → K' (some (vI r)) (shM m')) : EV l prog_13_method_5_code "PrunedSearchModel" 5 (some .boolean) 2 68 [(0, vR 0), (1, vL y1), (3, vI x3)] [] (shM m) K' := by
  refine EV_aload_n 0 d_M_type_68 rfl rfl ?_
  refine EV_get (j := 1) d_M_type_69 shM_0 rfl fI11 (by decide) k_969 rfl ?_
  refine EV_iload_n 2 d_M_type_72 rfl rfl ?_
  obtain ⟨hr, H⟩ := H
  refine EV_iadd d_M_type_73 hr ?_
  refine EV_sipush d_M_type_74 (by decide +kernel) ⟨by decide, by decide⟩ ?_
  refine EV_icmp_le (tgt := 82) d_M_type_77 (by decide) (fun hc => ?_) (fun hc => ?_)
  · have H := H.1 hc
    refine EV_iconst d_M_type_82 ⟨by decide, by decide⟩ ?_
    refine EV_istore (lv' := [(0, vR 0), (1, vL y1), (3, vI x3), (4, vI 0)]) [1, 2, 3, 0] d_M_type_83 (by decide) rfl ?_
    obtain ⟨n, H⟩ := H
    exact ct_M_type_85 hK n y1 x3 0 m H
  · have H := H.2 hc
    refine EV_iconst d_M_type_80 ⟨by decide, by decide⟩ ?_
    exact EV_iret d_M_type_81 rfl (nw_bool (by decide)) (hK _ _ H)
theorem ct_M_type_61 {l : Launch} {K : Int → Ob → Prop} {K' : Option AV → List AC → Prop} {L2 : Nat → Int → Ob → Prop} {y1 : Nat} {x3 : Int} {m : Ob} (hL2 : ∀ (y1 : Nat) (x3 : Int) (m : Ob), L2 y1 x3 m → EV l prog_13_method_5_code "PrunedSearchModel" 5 (some .boolean) 2 2 [(0, vR 0), (1, vL y1), (3, vI x3)] [] (shM m) K') (H : M_type_61 L2 y1 x3 m K) (hK : ∀ (r : Int) (m' : Ob), K r m' → K' (some (vI r)) (shM m')) : EV l prog_13_method_5_code "PrunedSearchModel" 5 (some .boolean) 2 61 [(0, vR 0), (1, vL y1), (3, vI x3)] [] (shM m) K' := by
  refine EV_iload_n 2 d_M_type_61 rfl rfl ?_
  refine EV_iconst d_M_type_62 ⟨by decide, by decide⟩ ?_
  obtain ⟨hr, H⟩ := H
  refine EV_iadd d_M_type_63 hr ?_
  refine EV_istore_n (lv' := [(0, vR 0), (1, vL y1), (3, vI (x3 + 1))]) [1, 2, 0] d_M_type_64 rfl (by decide) rfl ?_
  refine EV_goto (tgt := 2) d_M_type_65 (by decide) ?_
  exact hL2 y1 (x3 + 1) m H
theorem ct_M_type_2 {l : Launch} {K : Int → Ob → Prop} {K' : Option AV → List AC → Prop} (hK : ∀ (r : Int) (m' : Ob), K r m' → K' (some (vI r)) (shM m')) : ∀ (n : Nat) (y1 : Nat) (x3 : Int) (m : Ob), M_type_2 n y1 x3 m K → EV l prog_13_method_5_code "PrunedSearchModel" 5 (some .boolean) 2 2 [(0, vR 0), (1, vL y1), (3, vI x3)] [] (shM m) K' := by
  intro n
  induction n with
  | zero =>
    intro y1 x3 m H
    exact H.elim
  | succ n ih =>
    intro y1 x3 m H
    refine EV_iload_n 2 d_M_type_2 rfl rfl ?_
    refine EV_bipush d_M_type_3 (by decide +kernel) ⟨by decide, by decide⟩ ?_
    refine EV_icmp_ge (tgt := 68) d_M_type_5 (by decide) (fun hc => ?_) (fun hc => ?_)
    · have H := H.1 hc
      exact ct_M_type_68 H hK
    · have H := H.2 hc
      refine EV_lload_n 1 d_M_type_8 rfl rfl ?_
      refine EV_bipush d_M_type_9 (by decide +kernel) ⟨by decide, by decide⟩ ?_
      refine EV_iload_n 2 d_M_type_11 rfl rfl ?_
      obtain ⟨hr, H⟩ := H
      refine EV_imul d_M_type_12 hr ?_
      obtain ⟨h1, H⟩ := H
      refine EV_lshr d_M_type_13 h1 ?_
      refine EV_ldc2 (n := 255) d_M_type_14 k_1138 (by decide +kernel) (by decide) ?_
      refine EV_land d_M_type_17 ?_
      refine EV_lconst (v := 0) d_M_type_18 rfl ?_
      refine EV_lcmp_eq (tgt := 68) d_M_type_19 d_M_type_20 (by decide) (fun hc => ?_) (fun hc => ?_)
      · have H := H.1 hc
        exact ct_M_type_68 H hK
      · have H := H.2 hc
        refine EV_lload_n 1 d_M_type_23 rfl rfl ?_
        refine EV_bipush d_M_type_24 (by decide +kernel) ⟨by decide, by decide⟩ ?_
        refine EV_iload_n 2 d_M_type_26 rfl rfl ?_
        obtain ⟨hr, H⟩ := H
        refine EV_imul d_M_type_27 hr ?_
        obtain ⟨h1, H⟩ := H
        refine EV_lshr d_M_type_28 h1 ?_
        refine EV_ldc2 (n := 255) d_M_type_29 k_1138 (by decide +kernel) (by decide) ?_
        refine EV_land d_M_type_32 ?_
        obtain ⟨h0, H⟩ := H
        refine EV_l2i d_M_type_33 h0 ?_
        refine EV_istore (lv' := [(0, vR 0), (1, vL y1), (3, vI x3), (4, vI (((sar y1 (8 * x3).toNat) &&& 255 : Nat) : Int))]) [1, 2, 3, 0] d_M_type_34 (by decide) rfl ?_
        refine EV_iload 3 d_M_type_36 rfl ?_
        refine EV_callT (as := [vI (((sar y1 (8 * x3).toNat) &&& 255 : Nat) : Int)]) (st := []) d_M_type_38 k_1139 k_1140 k_12 k_1141 pd_2 ⟨by decide, by decide, Nat.le_of_ble_eq_true rfl⟩ rfl (ct_M_isWord H (fun r_1 H => ?_))
        refine EV_if_ne (tgt := 61) d_M_type_41 (by decide) (fun hc => ?_) (fun hc => ?_)
        · have H := H.1 hc
          refine EV_lv (lv' := [(0, vR 0), (1, vL y1), (3, vI x3)]) [0, 1, 2] rfl ?_
          exact ct_M_type_61 (fun y1 x3 m' H => ih y1 x3 m' H) H hK
        · have H := H.2 hc
          refine EV_iload 3 d_M_type_44 rfl ?_
          refine EV_callT (as := [vI (((sar y1 (8 * x3).toNat) &&& 255 : Nat) : Int)]) (st := []) d_M_type_46 k_1145 k_1146 k_12 k_1147 pd_1 ⟨by decide, by decide, Nat.le_of_ble_eq_true rfl⟩ rfl (ct_M_isSign H (fun r_2 H => ?_))
          refine EV_if_ne (tgt := 61) d_M_type_49 (by decide) (fun hc => ?_) (fun hc => ?_)
          · have H := H.1 hc
            refine EV_lv (lv' := [(0, vR 0), (1, vL y1), (3, vI x3)]) [0, 1, 2] rfl ?_
            exact ct_M_type_61 (fun y1 x3 m' H => ih y1 x3 m' H) H hK
          · have H := H.2 hc
            refine EV_iload 3 d_M_type_52 rfl ?_
            refine EV_bipush d_M_type_54 (by decide +kernel) ⟨by decide, by decide⟩ ?_
            refine EV_icmp_eq (tgt := 61) d_M_type_56 (by decide) (fun hc => ?_) (fun hc => ?_)
            · have H := H.1 hc
              refine EV_lv (lv' := [(0, vR 0), (1, vL y1), (3, vI x3)]) [0, 1, 2] rfl ?_
              exact ct_M_type_61 (fun y1 x3 m' H => ih y1 x3 m' H) H hK
            · have H := H.2 hc
              refine EV_iconst d_M_type_59 ⟨by decide, by decide⟩ ?_
              exact EV_iret d_M_type_60 rfl (nw_bool (by decide)) (hK _ _ H)
theorem ct_M_type {l : Launch} {m : Ob} {y1 : Nat} {K : Int → Ob → Prop} {K' : Option AV → List AC → Prop} (H : wp_M_type y1 m K) (hK : ∀ (r : Int) (m' : Ob), K r m' → K' (some (vI r)) (shM m')) : MT l ⟨"PrunedSearchModel", "type", "(J)Z"⟩ prog_13_method_5_code 5 (some .boolean) 2 [vR 0, vL y1] (shM m) K' := by
  unfold wp_M_type at H
  refine MT_of (lv := [(0, vR 0), (1, vL y1)]) rfl rfl (Nat.le_of_ble_eq_true rfl) rfl ?_
  refine EV_iconst d_M_type_0 ⟨by decide, by decide⟩ ?_
  refine EV_istore_n (lv' := [(0, vR 0), (1, vL y1), (3, vI 0)]) [1, 2, 0] d_M_type_1 rfl (by decide) rfl ?_
  obtain ⟨n, H⟩ := H
  exact ct_M_type_2 hK n y1 0 m H
theorem ct_M_beginPiece {l : Launch} {m : Ob} {K : Ob → Prop} {K' : Option AV → List AC → Prop} (H : wp_M_beginPiece m K) (hK : ∀ (m' : Ob), K m' → K' none (shM m')) : MT l ⟨"PrunedSearchModel", "beginPiece", "()V"⟩ prog_13_method_10_code 1 none 0 [vR 0] (shM m) K' := by
  unfold wp_M_beginPiece at H
  refine MT_of (lv := [(0, vR 0)]) rfl rfl (Nat.le_of_ble_eq_true rfl) rfl ?_
  refine EV_aload_n 0 d_M_beginPiece_0 rfl rfl ?_
  refine EV_get (j := 10) d_M_beginPiece_1 shM_0 rfl fI11 (by decide) k_978 rfl ?_
  refine EV_aload_n 0 d_M_beginPiece_4 rfl rfl ?_
  refine EV_get (j := 9) d_M_beginPiece_5 shM_0 rfl fI11 (by decide) k_977 rfl ?_
  refine EV_aload_n 0 d_M_beginPiece_8 rfl rfl ?_
  refine EV_get (j := 8) d_M_beginPiece_9 shM_0 rfl fI11 (by decide) k_976 rfl ?_
  obtain ⟨hi, H⟩ := H
  refine EV_iast d_M_beginPiece_12 shM_4 hi shM_4_s ?_
  refine EV_aload_n 0 d_M_beginPiece_13 rfl rfl ?_
  refine EV_get (j := 11) d_M_beginPiece_14 shM_0 rfl fI11 (by decide) k_979 rfl ?_
  refine EV_aload_n 0 d_M_beginPiece_17 rfl rfl ?_
  refine EV_get (j := 9) d_M_beginPiece_18 shM_0 rfl fI11 (by decide) k_977 rfl ?_
  refine EV_iconst d_M_beginPiece_21 ⟨by decide, by decide⟩ ?_
  obtain ⟨hi, H⟩ := H
  refine EV_iast d_M_beginPiece_22 shM_5 hi shM_5_s ?_
  refine EV_aload_n 0 d_M_beginPiece_23 rfl rfl ?_
  refine EV_iconst d_M_beginPiece_24 ⟨by decide, by decide⟩ ?_
  refine EV_put (j := 17) d_M_beginPiece_25 shM_0 rfl fI11 fO11 fN11 (by decide) k_985 rfl rfl (fun ad => nf_int ad _) (Nat.le_of_ble_eq_true rfl) shM_0_17 ?_
  exact EV_vret d_M_beginPiece_28 rfl (hK _ H)
theorem ct_M_at {l : Launch} {m : Ob} {x1 : Int} {K : Int → Prop} {K' : Option AV → List AC → Prop} (H : wp_M_at x1 m K) (hK : ∀ (r : Int), K r → K' (some (vI r)) (shM m)) : MT l ⟨"PrunedSearchModel", "at", "(I)I"⟩ prog_13_method_6_code 2 (some .int) 0 [vR 0, vI x1] (shM m) K' := by
  unfold wp_M_at at H
  refine MT_of (lv := [(0, vR 0), (1, vI x1)]) rfl rfl (Nat.le_of_ble_eq_true rfl) rfl ?_
  refine EV_iload_n 1 d_M_at_0 rfl rfl ?_
  refine EV_aload_n 0 d_M_at_1 rfl rfl ?_
  refine EV_get (j := 1) d_M_at_2 shM_0 rfl fI11 (by decide) k_969 rfl ?_
  refine EV_icmp_ge (tgt := 17) d_M_at_5 (by decide) (fun hc => ?_) (fun hc => ?_)
  · have H := H.1 hc
    refine EV_iconst d_M_at_17 ⟨by decide, by decide⟩ ?_
    exact EV_iret d_M_at_18 rfl (nw_int _) (hK _ H)
  · have H := H.2 hc
    refine EV_aload_n 0 d_M_at_8 rfl rfl ?_
    refine EV_get (j := 0) d_M_at_9 shM_0 rfl fI11 (by decide) k_968 rfl ?_
    refine EV_iload_n 1 d_M_at_12 rfl rfl ?_
    obtain ⟨hi, H⟩ := H
    refine EV_iald d_M_at_13 shM_1 hi ?_
    refine EV_goto (tgt := 18) d_M_at_14 (by decide) ?_
    exact EV_iret d_M_at_18 rfl (nw_int _) (hK _ H)
theorem ct_M_take_248 {l : Launch} {K : Ob → Prop} {K' : Option AV → List AC → Prop} {s0 : Int} {m : Ob} (H : M_take_248 s0 m K) (hK : ∀ (m' : Ob), K m' → K' none (shM m')) : EV l prog_13_method_7_code "PrunedSearchModel" 2 none 2 248 [(0, vR 0)] [vI s0, vR 0] (shM m) K' := by
  refine EV_put (j := 2) d_M_take_248 shM_0 rfl fI11 fO11 fN11 (by decide) k_970 rfl rfl (fun ad => nf_int ad _) (Nat.le_of_ble_eq_true rfl) shM_0_2 ?_
  refine EV_aload_n 0 d_M_take_251 rfl rfl ?_
  refine EV_aload_n 0 d_M_take_252 rfl rfl ?_
  refine EV_get (j := 3) d_M_take_253 shM_0 rfl fI11 (by decide) k_971 rfl ?_
  refine EV_iconst d_M_take_256 ⟨by decide, by decide⟩ ?_
  obtain ⟨hr, H⟩ := H
  refine EV_iadd d_M_take_257 hr ?_
  refine EV_put (j := 4) d_M_take_258 shM_0 rfl fI11 fO11 fN11 (by decide) k_972 rfl rfl (fun ad => nf_int ad _) (Nat.le_of_ble_eq_true rfl) shM_0_4 ?_
  refine EV_goto (tgt := 269) d_M_take_261 (by decide) ?_
  exact EV_vret d_M_take_269 rfl (hK _ H)
theorem ct_M_take_247 {l : Launch} {K : Ob → Prop} {K' : Option AV → List AC → Prop} {m : Ob} (H : M_take_247 m K) (hK : ∀ (m' : Ob), K m' → K' none (shM m')) : EV l prog_13_method_7_code "PrunedSearchModel" 2 none 2 247 [(0, vR 0)] [vR 0] (shM m) K' := by
  refine EV_iconst d_M_take_247 ⟨by decide, by decide⟩ ?_
  exact ct_M_take_248 H hK
theorem ct_M_take_221 {l : Launch} {K : Ob → Prop} {K' : Option AV → List AC → Prop} {x1 : Int} {m : Ob} (H : M_take_221 x1 m K) (hK : ∀ (m' : Ob), K m' → K' none (shM m')) : EV l prog_13_method_7_code "PrunedSearchModel" 2 none 2 221 [(0, vR 0), (1, vI x1)] [] (shM m) K' := by
  refine EV_aload_n 0 d_M_take_221 rfl rfl ?_
  refine EV_iload_n 1 d_M_take_222 rfl rfl ?_
  refine EV_bipush d_M_take_223 (by decide +kernel) ⟨by decide, by decide⟩ ?_
  refine EV_icmp_ne (tgt := 247) d_M_take_225 (by decide) (fun hc => ?_) (fun hc => ?_)
  · have H := H.1 hc
    refine EV_lv (lv' := [(0, vR 0)]) [0] rfl ?_
    exact ct_M_take_247 H hK
  · have H := H.2 hc
    refine EV_aload_n 0 d_M_take_228 rfl rfl ?_
    refine EV_aload_n 0 d_M_take_229 rfl rfl ?_
    refine EV_get (j := 3) d_M_take_230 shM_0 rfl fI11 (by decide) k_971 rfl ?_
    refine EV_iconst d_M_take_233 ⟨by decide, by decide⟩ ?_
    obtain ⟨hr, H⟩ := H
    refine EV_iadd d_M_take_234 hr ?_
    refine EV_callV (as := [vI ((m.1 2) + 1)]) (st := [vR 0]) d_M_take_235 k_1164 k_1166 kp_45 k_12 k_1167 shM_0 rfl pd_3 ⟨by decide, by decide, Nat.le_of_ble_eq_true rfl⟩ rfl (ct_M_at H (fun r_4 H => ?_))
    refine EV_bipush d_M_take_238 (by decide +kernel) ⟨by decide, by decide⟩ ?_
    refine EV_icmp_ne (tgt := 247) d_M_take_240 (by decide) (fun hc => ?_) (fun hc => ?_)
    · have H := H.1 hc
      refine EV_lv (lv' := [(0, vR 0)]) [0] rfl ?_
      exact ct_M_take_247 H hK
    · have H := H.2 hc
      refine EV_iconst d_M_take_243 ⟨by decide, by decide⟩ ?_
      refine EV_goto (tgt := 248) d_M_take_244 (by decide) ?_
      refine EV_lv (lv' := [(0, vR 0)]) [0] rfl ?_
      exact ct_M_take_248 H hK
theorem ct_M_take_203 {l : Launch} {K : Ob → Prop} {K' : Option AV → List AC → Prop} {s0 : Int} {m : Ob} (H : M_take_203 s0 m K) (hK : ∀ (m' : Ob), K m' → K' none (shM m')) : EV l prog_13_method_7_code "PrunedSearchModel" 2 none 2 203 [] [vI s0, vR 0] (shM m) K' := by
  refine EV_put (j := 2) d_M_take_203 shM_0 rfl fI11 fO11 fN11 (by decide) k_970 rfl rfl (fun ad => nf_int ad _) (Nat.le_of_ble_eq_true rfl) shM_0_2 ?_
  refine EV_goto (tgt := 269) d_M_take_206 (by decide) ?_
  exact EV_vret d_M_take_269 rfl (hK _ H)
theorem ct_M_take_172 {l : Launch} {K : Ob → Prop} {K' : Option AV → List AC → Prop} {x1 : Int} {m : Ob} (H : M_take_172 x1 m K) (hK : ∀ (m' : Ob), K m' → K' none (shM m')) : EV l prog_13_method_7_code "PrunedSearchModel" 2 none 2 172 [(0, vR 0), (1, vI x1)] [] (shM m) K' := by
  refine EV_aload_n 0 d_M_take_172 rfl rfl ?_
  refine EV_aload_n 0 d_M_take_173 rfl rfl ?_
  refine EV_get (j := 4) d_M_take_174 shM_0 rfl fI11 (by decide) k_972 rfl ?_
  refine EV_aload_n 0 d_M_take_177 rfl rfl ?_
  refine EV_get (j := 3) d_M_take_178 shM_0 rfl fI11 (by decide) k_971 rfl ?_
  obtain ⟨hr, H⟩ := H
  refine EV_isub d_M_take_181 hr ?_
  refine EV_bipush d_M_take_182 (by decide +kernel) ⟨by decide, by decide⟩ ?_
  refine EV_icmp_le (tgt := 191) d_M_take_184 (by decide) (fun hc => ?_) (fun hc => ?_)
  · have H := H.1 hc
    refine EV_iload_n 1 d_M_take_191 rfl rfl ?_
    refine EV_callT (as := [vI x1]) (st := [vR 0]) d_M_take_192 k_1142 k_1143 k_12 k_1144 pd_0 ⟨by decide, by decide, Nat.le_of_ble_eq_true rfl⟩ rfl (ct_M_isSmall H (fun r_7 H => ?_))
    refine EV_if_eq (tgt := 202) d_M_take_195 (by decide) (fun hc => ?_) (fun hc => ?_)
    · have H := H.1 hc
      refine EV_iconst d_M_take_202 ⟨by decide, by decide⟩ ?_
      refine EV_lv (lv' := []) [] rfl ?_
      exact ct_M_take_203 H hK
    · have H := H.2 hc
      refine EV_iconst d_M_take_198 ⟨by decide, by decide⟩ ?_
      refine EV_goto (tgt := 203) d_M_take_199 (by decide) ?_
      refine EV_lv (lv' := []) [] rfl ?_
      exact ct_M_take_203 H hK
  · have H := H.2 hc
    refine EV_iconst d_M_take_187 ⟨by decide, by decide⟩ ?_
    refine EV_goto (tgt := 203) d_M_take_188 (by decide) ?_
    refine EV_lv (lv' := []) [] rfl ?_
    exact ct_M_take_203 H hK
theorem ct_M_take_156 {l : Launch} {K : Ob → Prop} {K' : Option AV → List AC → Prop} {L93 : Int → Ob → Prop} {x1 : Int} {t0 : Nat} {m : Ob} (hL93 : ∀ (x1 : Int) (m : Ob), L93 x1 m → EV l prog_13_method_7_code "PrunedSearchModel" 2 none 2 93 [(0, vR 0), (1, vI x1)] [] (shM m) K') (H : M_take_156 L93 x1 t0 m K) (hK : ∀ (m' : Ob), K m' → K' none (shM m')) : EV l prog_13_method_7_code "PrunedSearchModel" 2 none 2 156 [(0, vR 0), (1, vI x1)] [vL t0, vR 0] (shM m) K' := by
  refine EV_put (j := 5) d_M_take_156 shM_0 rfl fI11 fO11 fN11 (by decide) k_973 rfl rfl (fun ad => nf_long ad _) (Nat.le_of_ble_eq_true rfl) shM_0_5 ?_
  refine EV_aload_n 0 d_M_take_159 rfl rfl ?_
  refine EV_aload_n 0 d_M_take_160 rfl rfl ?_
  refine EV_get (j := 4) d_M_take_161 shM_0 rfl fI11 (by decide) k_972 rfl ?_
  refine EV_iconst d_M_take_164 ⟨by decide, by decide⟩ ?_
  obtain ⟨hr, H⟩ := H
  refine EV_iadd d_M_take_165 hr ?_
  refine EV_put (j := 4) d_M_take_166 shM_0 rfl fI11 fO11 fN11 (by decide) k_972 rfl rfl (fun ad => nf_int ad _) (Nat.le_of_ble_eq_true rfl) shM_0_4 ?_
  refine EV_goto (tgt := 93) d_M_take_169 (by decide) ?_
  exact hL93 x1 (sI (sJ m 0 t0) 3 ((m.1 3) + 1)) H
theorem ct_M_take_93 {l : Launch} {K : Ob → Prop} {K' : Option AV → List AC → Prop} (hK : ∀ (m' : Ob), K m' → K' none (shM m')) : ∀ (n : Nat) (x1 : Int) (m : Ob), M_take_93 n x1 m K → EV l prog_13_method_7_code "PrunedSearchModel" 2 none 2 93 [(0, vR 0), (1, vI x1)] [] (shM m) K' := by
  intro n
  induction n with
  | zero =>
    intro x1 m H
    exact H.elim
  | succ n ih =>
    intro x1 m H
    refine EV_aload_n 0 d_M_take_93 rfl rfl ?_
    refine EV_aload_n 0 d_M_take_94 rfl rfl ?_
    refine EV_get (j := 4) d_M_take_95 shM_0 rfl fI11 (by decide) k_972 rfl ?_
    refine EV_callV (as := [vI (m.1 3)]) (st := []) d_M_take_98 k_1164 k_1166 kp_45 k_12 k_1167 shM_0 rfl pd_3 ⟨by decide, by decide, Nat.le_of_ble_eq_true rfl⟩ rfl (ct_M_at H (fun r_5 H => ?_))
    refine EV_callT (as := [vI r_5]) (st := []) d_M_take_101 k_1139 k_1140 k_12 k_1141 pd_2 ⟨by decide, by decide, Nat.le_of_ble_eq_true rfl⟩ rfl (ct_M_isWord H (fun r_6 H => ?_))
    refine EV_if_eq (tgt := 172) d_M_take_104 (by decide) (fun hc => ?_) (fun hc => ?_)
    · have H := H.1 hc
      exact ct_M_take_172 H hK
    · have H := H.2 hc
      refine EV_aload_n 0 d_M_take_107 rfl rfl ?_
      refine EV_aload_n 0 d_M_take_108 rfl rfl ?_
      refine EV_get (j := 4) d_M_take_109 shM_0 rfl fI11 (by decide) k_972 rfl ?_
      refine EV_aload_n 0 d_M_take_112 rfl rfl ?_
      refine EV_get (j := 3) d_M_take_113 shM_0 rfl fI11 (by decide) k_971 rfl ?_
      obtain ⟨hr, H⟩ := H
      refine EV_isub d_M_take_116 hr ?_
      refine EV_bipush d_M_take_117 (by decide +kernel) ⟨by decide, by decide⟩ ?_
      refine EV_icmp_ge (tgt := 152) d_M_take_119 (by decide) (fun hc => ?_) (fun hc => ?_)
      · have H := H.1 hc
        refine EV_aload_n 0 d_M_take_152 rfl rfl ?_
        refine EV_get (j := 5) d_M_take_153 shM_0 rfl fI11 (by decide) k_973 rfl ?_
        exact ct_M_take_156 (fun x1 m' H => ih x1 m' H) H hK
      · have H := H.2 hc
        refine EV_aload_n 0 d_M_take_122 rfl rfl ?_
        refine EV_get (j := 5) d_M_take_123 shM_0 rfl fI11 (by decide) k_973 rfl ?_
        refine EV_aload_n 0 d_M_take_126 rfl rfl ?_
        refine EV_aload_n 0 d_M_take_127 rfl rfl ?_
        refine EV_get (j := 4) d_M_take_128 shM_0 rfl fI11 (by decide) k_972 rfl ?_
        refine EV_callV (as := [vI (m.1 3)]) (st := [vL (m.2.2.1 0), vR 0]) d_M_take_131 k_1164 k_1166 kp_45 k_12 k_1167 shM_0 rfl pd_3 ⟨by decide, by decide, Nat.le_of_ble_eq_true rfl⟩ rfl (ct_M_at H (fun r_8 H => ?_))
        obtain ⟨h0, H⟩ := H
        refine EV_i2l d_M_take_134 h0 ?_
        refine EV_bipush d_M_take_135 (by decide +kernel) ⟨by decide, by decide⟩ ?_
        refine EV_aload_n 0 d_M_take_137 rfl rfl ?_
        refine EV_get (j := 4) d_M_take_138 shM_0 rfl fI11 (by decide) k_972 rfl ?_
        refine EV_aload_n 0 d_M_take_141 rfl rfl ?_
        refine EV_get (j := 3) d_M_take_142 shM_0 rfl fI11 (by decide) k_971 rfl ?_
        obtain ⟨hr, H⟩ := H
        refine EV_isub d_M_take_145 hr ?_
        obtain ⟨hr, H⟩ := H
        refine EV_imul d_M_take_146 hr ?_
        obtain ⟨h1, h2, H⟩ := H
        refine EV_lshl d_M_take_147 h1 h2 ?_
        refine EV_lor d_M_take_148 ?_
        refine EV_goto (tgt := 156) d_M_take_149 (by decide) ?_
        exact ct_M_take_156 (fun x1 m' H => ih x1 m' H) H hK
theorem ct_M_take_34 {l : Launch} {K : Ob → Prop} {K' : Option AV → List AC → Prop} {m : Ob} (H : M_take_34 m K) (hK : ∀ (m' : Ob), K m' → K' none (shM m')) : EV l prog_13_method_7_code "PrunedSearchModel" 2 none 2 34 [(0, vR 0)] [] (shM m) K' := by
  refine EV_aload_n 0 d_M_take_34 rfl rfl ?_
  refine EV_aload_n 0 d_M_take_35 rfl rfl ?_
  refine EV_get (j := 3) d_M_take_36 shM_0 rfl fI11 (by decide) k_971 rfl ?_
  refine EV_callV (as := [vI (m.1 2)]) (st := []) d_M_take_39 k_1164 k_1166 kp_45 k_12 k_1167 shM_0 rfl pd_3 ⟨by decide, by decide, Nat.le_of_ble_eq_true rfl⟩ rfl (ct_M_at H (fun r_2 H => ?_))
  refine EV_istore_n (lv' := [(0, vR 0), (1, vI r_2)]) [1, 0] d_M_take_42 rfl (by decide) rfl ?_
  refine EV_aload_n 0 d_M_take_43 rfl rfl ?_
  refine EV_aload_n 0 d_M_take_44 rfl rfl ?_
  refine EV_get (j := 3) d_M_take_45 shM_0 rfl fI11 (by decide) k_971 rfl ?_
  refine EV_iconst d_M_take_48 ⟨by decide, by decide⟩ ?_
  obtain ⟨hr, H⟩ := H
  refine EV_iadd d_M_take_49 hr ?_
  refine EV_put (j := 4) d_M_take_50 shM_0 rfl fI11 fO11 fN11 (by decide) k_972 rfl rfl (fun ad => nf_int ad _) (Nat.le_of_ble_eq_true rfl) shM_0_4 ?_
  refine EV_iload_n 1 d_M_take_53 rfl rfl ?_
  refine EV_if_ne (tgt := 73) d_M_take_54 (by decide) (fun hc => ?_) (fun hc => ?_)
  · have H := H.1 hc
    refine EV_iload_n 1 d_M_take_73 rfl rfl ?_
    refine EV_callT (as := [vI r_2]) (st := []) d_M_take_74 k_1139 k_1140 k_12 k_1141 pd_2 ⟨by decide, by decide, Nat.le_of_ble_eq_true rfl⟩ rfl (ct_M_isWord H (fun r_3 H => ?_))
    refine EV_if_eq (tgt := 209) d_M_take_77 (by decide) (fun hc => ?_) (fun hc => ?_)
    · have H := H.1 hc
      refine EV_iload_n 1 d_M_take_209 rfl rfl ?_
      refine EV_bipush d_M_take_210 (by decide +kernel) ⟨by decide, by decide⟩ ?_
      refine EV_icmp_eq (tgt := 221) d_M_take_212 (by decide) (fun hc => ?_) (fun hc => ?_)
      · have H := H.1 hc
        exact ct_M_take_221 H hK
      · have H := H.2 hc
        refine EV_iload_n 1 d_M_take_215 rfl rfl ?_
        refine EV_bipush d_M_take_216 (by decide +kernel) ⟨by decide, by decide⟩ ?_
        refine EV_icmp_ne (tgt := 264) d_M_take_218 (by decide) (fun hc => ?_) (fun hc => ?_)
        · have H := H.1 hc
          refine EV_aload_n 0 d_M_take_264 rfl rfl ?_
          refine EV_iload_n 1 d_M_take_265 rfl rfl ?_
          refine EV_put (j := 2) d_M_take_266 shM_0 rfl fI11 fO11 fN11 (by decide) k_970 rfl rfl (fun ad => nf_int ad _) (Nat.le_of_ble_eq_true rfl) shM_0_2 ?_
          exact EV_vret d_M_take_269 rfl (hK _ H)
        · have H := H.2 hc
          exact ct_M_take_221 H hK
    · have H := H.2 hc
      refine EV_aload_n 0 d_M_take_80 rfl rfl ?_
      refine EV_lconst (v := 0) d_M_take_81 rfl ?_
      refine EV_put (j := 5) d_M_take_82 shM_0 rfl fI11 fO11 fN11 (by decide) k_973 rfl rfl (fun ad => nf_long ad _) (Nat.le_of_ble_eq_true rfl) shM_0_5 ?_
      refine EV_aload_n 0 d_M_take_85 rfl rfl ?_
      refine EV_aload_n 0 d_M_take_86 rfl rfl ?_
      refine EV_get (j := 3) d_M_take_87 shM_0 rfl fI11 (by decide) k_971 rfl ?_
      refine EV_put (j := 4) d_M_take_90 shM_0 rfl fI11 fO11 fN11 (by decide) k_972 rfl rfl (fun ad => nf_int ad _) (Nat.le_of_ble_eq_true rfl) shM_0_4 ?_
      obtain ⟨n, H⟩ := H
      exact ct_M_take_93 hK n r_2 (sI (sJ (sI m 3 ((m.1 2) + 1)) 0 0) 3 (m.1 2)) H
  · have H := H.2 hc
    refine EV_aload_n 0 d_M_take_57 rfl rfl ?_
    refine EV_iconst d_M_take_58 ⟨by decide, by decide⟩ ?_
    refine EV_put (j := 2) d_M_take_59 shM_0 rfl fI11 fO11 fN11 (by decide) k_970 rfl rfl (fun ad => nf_int ad _) (Nat.le_of_ble_eq_true rfl) shM_0_2 ?_
    refine EV_aload_n 0 d_M_take_62 rfl rfl ?_
    refine EV_aload_n 0 d_M_take_63 rfl rfl ?_
    refine EV_get (j := 3) d_M_take_64 shM_0 rfl fI11 (by decide) k_971 rfl ?_
    refine EV_put (j := 4) d_M_take_67 shM_0 rfl fI11 fO11 fN11 (by decide) k_972 rfl rfl (fun ad => nf_int ad _) (Nat.le_of_ble_eq_true rfl) shM_0_4 ?_
    refine EV_goto (tgt := 269) d_M_take_70 (by decide) ?_
    exact EV_vret d_M_take_269 rfl (hK _ H)
theorem ct_M_take_8 {l : Launch} {K : Ob → Prop} {K' : Option AV → List AC → Prop} (hK : ∀ (m' : Ob), K m' → K' none (shM m')) : ∀ (n : Nat)  (m : Ob), M_take_8 n m K → EV l prog_13_method_7_code "PrunedSearchModel" 2 none 2 8 [(0, vR 0)] [] (shM m) K' := by
  intro n
  induction n with
  | zero =>
    intro m H
    exact H.elim
  | succ n ih =>
    intro m H
    refine EV_aload_n 0 d_M_take_8 rfl rfl ?_
    refine EV_aload_n 0 d_M_take_9 rfl rfl ?_
    refine EV_get (j := 3) d_M_take_10 shM_0 rfl fI11 (by decide) k_971 rfl ?_
    refine EV_callV (as := [vI (m.1 2)]) (st := []) d_M_take_13 k_1164 k_1166 kp_45 k_12 k_1167 shM_0 rfl pd_3 ⟨by decide, by decide, Nat.le_of_ble_eq_true rfl⟩ rfl (ct_M_at H (fun r_1 H => ?_))
    refine EV_bipush d_M_take_16 (by decide +kernel) ⟨by decide, by decide⟩ ?_
    refine EV_icmp_ne (tgt := 34) d_M_take_18 (by decide) (fun hc => ?_) (fun hc => ?_)
    · have H := H.1 hc
      exact ct_M_take_34 H hK
    · have H := H.2 hc
      refine EV_aload_n 0 d_M_take_21 rfl rfl ?_
      refine EV_aload_n 0 d_M_take_22 rfl rfl ?_
      refine EV_get (j := 3) d_M_take_23 shM_0 rfl fI11 (by decide) k_971 rfl ?_
      refine EV_iconst d_M_take_26 ⟨by decide, by decide⟩ ?_
      obtain ⟨hr, H⟩ := H
      refine EV_iadd d_M_take_27 hr ?_
      refine EV_put (j := 3) d_M_take_28 shM_0 rfl fI11 fO11 fN11 (by decide) k_971 rfl rfl (fun ad => nf_int ad _) (Nat.le_of_ble_eq_true rfl) shM_0_3 ?_
      refine EV_goto (tgt := 8) d_M_take_31 (by decide) ?_
      exact ih (sI m 2 ((m.1 2) + 1)) H
theorem ct_M_take {l : Launch} {m : Ob} {K : Ob → Prop} {K' : Option AV → List AC → Prop} (H : wp_M_take m K) (hK : ∀ (m' : Ob), K m' → K' none (shM m')) : MT l ⟨"PrunedSearchModel", "take", "()V"⟩ prog_13_method_7_code 2 none 2 [vR 0] (shM m) K' := by
  unfold wp_M_take at H
  refine MT_of (lv := [(0, vR 0)]) rfl rfl (Nat.le_of_ble_eq_true rfl) rfl ?_
  refine EV_aload_n 0 d_M_take_0 rfl rfl ?_
  refine EV_aload_n 0 d_M_take_1 rfl rfl ?_
  refine EV_get (j := 4) d_M_take_2 shM_0 rfl fI11 (by decide) k_972 rfl ?_
  refine EV_put (j := 3) d_M_take_5 shM_0 rfl fI11 fO11 fN11 (by decide) k_971 rfl rfl (fun ad => nf_int ad _) (Nat.le_of_ble_eq_true rfl) shM_0_3 ?_
  obtain ⟨n, H⟩ := H
  exact ct_M_take_8 hK n (sI m 2 (m.1 3)) H
theorem ct_M_push {l : Launch} {m : Ob} {x1 : Int} {K : Int → Ob → Prop} {K' : Option AV → List AC → Prop} (H : wp_M_push x1 m K) (hK : ∀ (r : Int) (m' : Ob), K r m' → K' (some (vI r)) (shM m')) : MT l ⟨"PrunedSearchModel", "push", "(I)Z"⟩ prog_13_method_13_code 2 (some .boolean) 0 [vR 0, vI x1] (shM m) K' := by
  unfold wp_M_push at H
  refine MT_of (lv := [(0, vR 0), (1, vI x1)]) rfl rfl (Nat.le_of_ble_eq_true rfl) rfl ?_
  refine EV_aload_n 0 d_M_push_0 rfl rfl ?_
  refine EV_get (j := 18) d_M_push_1 shM_0 rfl fI11 (by decide) k_986 rfl ?_
  refine EV_bipush d_M_push_4 (by decide +kernel) ⟨by decide, by decide⟩ ?_
  refine EV_icmp_ne (tgt := 11) d_M_push_6 (by decide) (fun hc => ?_) (fun hc => ?_)
  · have H := H.1 hc
    refine EV_aload_n 0 d_M_push_11 rfl rfl ?_
    refine EV_get (j := 19) d_M_push_12 shM_0 rfl fI11 (by decide) k_987 rfl ?_
    refine EV_aload_n 0 d_M_push_15 rfl rfl ?_
    refine EV_get (j := 18) d_M_push_16 shM_0 rfl fI11 (by decide) k_986 rfl ?_
    refine EV_iload_n 1 d_M_push_19 rfl rfl ?_
    obtain ⟨hi, H⟩ := H
    refine EV_iast d_M_push_20 shM_10 hi shM_10_s ?_
    refine EV_aload_n 0 d_M_push_21 rfl rfl ?_
    refine EV_get (j := 20) d_M_push_22 shM_0 rfl fI11 (by decide) k_988 rfl ?_
    refine EV_aload_n 0 d_M_push_25 rfl rfl ?_
    refine EV_get (j := 18) d_M_push_26 shM_0 rfl fI11 (by decide) k_986 rfl ?_
    refine EV_aload_n 0 d_M_push_29 rfl rfl ?_
    refine EV_get (j := 8) d_M_push_30 shM_0 rfl fI11 (by decide) k_976 rfl ?_
    refine EV_iconst d_M_push_33 ⟨by decide, by decide⟩ ?_
    obtain ⟨hr, H⟩ := H
    refine EV_isub d_M_push_34 hr ?_
    obtain ⟨hi, H⟩ := H
    refine EV_iast d_M_push_35 shM_11 hi shM_11_s ?_
    refine EV_aload_n 0 d_M_push_36 rfl rfl ?_
    refine EV_get (j := 21) d_M_push_37 shM_0 rfl fI11 (by decide) k_989 rfl ?_
    refine EV_aload_n 0 d_M_push_40 rfl rfl ?_
    refine EV_get (j := 18) d_M_push_41 shM_0 rfl fI11 (by decide) k_986 rfl ?_
    refine EV_iconst d_M_push_44 ⟨by decide, by decide⟩ ?_
    obtain ⟨hi, H⟩ := H
    refine EV_iast d_M_push_45 shM_12 hi shM_12_s ?_
    refine EV_aload_n 0 d_M_push_46 rfl rfl ?_
    refine EV_aload_n 0 d_M_push_47 rfl rfl ?_
    refine EV_get (j := 18) d_M_push_48 shM_0 rfl fI11 (by decide) k_986 rfl ?_
    refine EV_iconst d_M_push_51 ⟨by decide, by decide⟩ ?_
    obtain ⟨hr, H⟩ := H
    refine EV_iadd d_M_push_52 hr ?_
    refine EV_put (j := 18) d_M_push_53 shM_0 rfl fI11 fO11 fN11 (by decide) k_986 rfl rfl (fun ad => nf_int ad _) (Nat.le_of_ble_eq_true rfl) shM_0_18 ?_
    refine EV_iconst d_M_push_56 ⟨by decide, by decide⟩ ?_
    exact EV_iret d_M_push_57 rfl (nw_bool (by decide)) (hK _ _ H)
  · have H := H.2 hc
    refine EV_iconst d_M_push_9 ⟨by decide, by decide⟩ ?_
    exact EV_iret d_M_push_10 rfl (nw_bool (by decide)) (hK _ _ H)
theorem ct_M_emit {l : Launch} {m : Ob} {y1 : Nat} {x3 : Int} {K : Ob → Prop} {K' : Option AV → List AC → Prop} (H : wp_M_emit y1 x3 m K) (hK : ∀ (m' : Ob), K m' → K' none (shM m')) : MT l ⟨"PrunedSearchModel", "emit", "(JI)V"⟩ prog_13_method_8_code 4 none 0 [vR 0, vL y1, vI x3] (shM m) K' := by
  unfold wp_M_emit at H
  refine MT_of (lv := [(0, vR 0), (1, vL y1), (3, vI x3)]) rfl rfl (Nat.le_of_ble_eq_true rfl) rfl ?_
  refine EV_aload_n 0 d_M_emit_0 rfl rfl ?_
  refine EV_get (j := 6) d_M_emit_1 shM_0 rfl fI11 (by decide) k_974 rfl ?_
  refine EV_aload_n 0 d_M_emit_4 rfl rfl ?_
  refine EV_get (j := 8) d_M_emit_5 shM_0 rfl fI11 (by decide) k_976 rfl ?_
  refine EV_lload_n 1 d_M_emit_8 rfl rfl ?_
  obtain ⟨hi, H⟩ := H
  refine EV_last d_M_emit_9 shM_2 hi shM_2_s ?_
  refine EV_aload_n 0 d_M_emit_10 rfl rfl ?_
  refine EV_get (j := 7) d_M_emit_11 shM_0 rfl fI11 (by decide) k_975 rfl ?_
  refine EV_aload_n 0 d_M_emit_14 rfl rfl ?_
  refine EV_get (j := 8) d_M_emit_15 shM_0 rfl fI11 (by decide) k_976 rfl ?_
  refine EV_iload_n 2 d_M_emit_18 rfl rfl ?_
  obtain ⟨hi, H⟩ := H
  refine EV_iast d_M_emit_19 shM_3 hi shM_3_s ?_
  refine EV_aload_n 0 d_M_emit_20 rfl rfl ?_
  refine EV_aload_n 0 d_M_emit_21 rfl rfl ?_
  refine EV_get (j := 8) d_M_emit_22 shM_0 rfl fI11 (by decide) k_976 rfl ?_
  refine EV_iconst d_M_emit_25 ⟨by decide, by decide⟩ ?_
  obtain ⟨hr, H⟩ := H
  refine EV_iadd d_M_emit_26 hr ?_
  refine EV_put (j := 8) d_M_emit_27 shM_0 rfl fI11 fO11 fN11 (by decide) k_976 rfl rfl (fun ad => nf_int ad _) (Nat.le_of_ble_eq_true rfl) shM_0_8 ?_
  exact EV_vret d_M_emit_30 rfl (hK _ H)
theorem ct_M_beginGoal {l : Launch} {m : Ob} {K : Ob → Prop} {K' : Option AV → List AC → Prop} (H : wp_M_beginGoal m K) (hK : ∀ (m' : Ob), K m' → K' none (shM m')) : MT l ⟨"PrunedSearchModel", "beginGoal", "()V"⟩ prog_13_method_11_code 1 none 0 [vR 0] (shM m) K' := by
  unfold wp_M_beginGoal at H
  refine MT_of (lv := [(0, vR 0)]) rfl rfl (Nat.le_of_ble_eq_true rfl) rfl ?_
  refine EV_aload_n 0 d_M_beginGoal_0 rfl rfl ?_
  refine EV_get (j := 14) d_M_beginGoal_1 shM_0 rfl fI11 (by decide) k_982 rfl ?_
  refine EV_aload_n 0 d_M_beginGoal_4 rfl rfl ?_
  refine EV_get (j := 13) d_M_beginGoal_5 shM_0 rfl fI11 (by decide) k_981 rfl ?_
  refine EV_aload_n 0 d_M_beginGoal_8 rfl rfl ?_
  refine EV_get (j := 8) d_M_beginGoal_9 shM_0 rfl fI11 (by decide) k_976 rfl ?_
  obtain ⟨hi, H⟩ := H
  refine EV_iast d_M_beginGoal_12 shM_7 hi shM_7_s ?_
  refine EV_aload_n 0 d_M_beginGoal_13 rfl rfl ?_
  refine EV_aload_n 0 d_M_beginGoal_14 rfl rfl ?_
  refine EV_get (j := 13) d_M_beginGoal_15 shM_0 rfl fI11 (by decide) k_981 rfl ?_
  refine EV_iconst d_M_beginGoal_18 ⟨by decide, by decide⟩ ?_
  obtain ⟨hr, H⟩ := H
  refine EV_iadd d_M_beginGoal_19 hr ?_
  refine EV_put (j := 13) d_M_beginGoal_20 shM_0 rfl fI11 fO11 fN11 (by decide) k_981 rfl rfl (fun ad => nf_int ad _) (Nat.le_of_ble_eq_true rfl) shM_0_13 ?_
  refine EV_aload_n 0 d_M_beginGoal_23 rfl rfl ?_
  refine EV_get (j := 11) d_M_beginGoal_24 shM_0 rfl fI11 (by decide) k_979 rfl ?_
  refine EV_aload_n 0 d_M_beginGoal_27 rfl rfl ?_
  refine EV_get (j := 9) d_M_beginGoal_28 shM_0 rfl fI11 (by decide) k_977 rfl ?_
  refine EV_aload_n 0 d_M_beginGoal_31 rfl rfl ?_
  refine EV_get (j := 11) d_M_beginGoal_32 shM_0 rfl fI11 (by decide) k_979 rfl ?_
  refine EV_aload_n 0 d_M_beginGoal_35 rfl rfl ?_
  refine EV_get (j := 9) d_M_beginGoal_36 shM_0 rfl fI11 (by decide) k_977 rfl ?_
  obtain ⟨hi, H⟩ := H
  refine EV_iald d_M_beginGoal_39 shM_5 hi ?_
  refine EV_iconst d_M_beginGoal_40 ⟨by decide, by decide⟩ ?_
  obtain ⟨hr, H⟩ := H
  refine EV_iadd d_M_beginGoal_41 hr ?_
  obtain ⟨hi, H⟩ := H
  refine EV_iast d_M_beginGoal_42 shM_5 hi shM_5_s ?_
  exact EV_vret d_M_beginGoal_43 rfl (hK _ H)
theorem ct_M_endPiece {l : Launch} {m : Ob} {K : Ob → Prop} {K' : Option AV → List AC → Prop} (H : wp_M_endPiece m K) (hK : ∀ (m' : Ob), K m' → K' none (shM m')) : MT l ⟨"PrunedSearchModel", "endPiece", "()V"⟩ prog_13_method_12_code 1 none 0 [vR 0] (shM m) K' := by
  unfold wp_M_endPiece at H
  refine MT_of (lv := [(0, vR 0)]) rfl rfl (Nat.le_of_ble_eq_true rfl) rfl ?_
  refine EV_aload_n 0 d_M_endPiece_0 rfl rfl ?_
  refine EV_get (j := 12) d_M_endPiece_1 shM_0 rfl fI11 (by decide) k_980 rfl ?_
  refine EV_aload_n 0 d_M_endPiece_4 rfl rfl ?_
  refine EV_get (j := 9) d_M_endPiece_5 shM_0 rfl fI11 (by decide) k_977 rfl ?_
  refine EV_aload_n 0 d_M_endPiece_8 rfl rfl ?_
  refine EV_get (j := 17) d_M_endPiece_9 shM_0 rfl fI11 (by decide) k_985 rfl ?_
  obtain ⟨hi, H⟩ := H
  refine EV_iast d_M_endPiece_12 shM_6 hi shM_6_s ?_
  refine EV_aload_n 0 d_M_endPiece_13 rfl rfl ?_
  refine EV_aload_n 0 d_M_endPiece_14 rfl rfl ?_
  refine EV_get (j := 9) d_M_endPiece_15 shM_0 rfl fI11 (by decide) k_977 rfl ?_
  refine EV_iconst d_M_endPiece_18 ⟨by decide, by decide⟩ ?_
  obtain ⟨hr, H⟩ := H
  refine EV_iadd d_M_endPiece_19 hr ?_
  refine EV_put (j := 9) d_M_endPiece_20 shM_0 rfl fI11 fO11 fN11 (by decide) k_977 rfl rfl (fun ad => nf_int ad _) (Nat.le_of_ble_eq_true rfl) shM_0_9 ?_
  exact EV_vret d_M_endPiece_23 rfl (hK _ H)
theorem ct_M_outside_111 {l : Launch} {K : Int → Ob → Prop} {K' : Option AV → List AC → Prop} {x2 : Int} {m : Ob} (H : M_outside_111 x2 m K) (hK : ∀ (r : Int) (m' : Ob), K r m' → K' (some (vI r)) (shM m')) : EV l prog_13_method_16_code "PrunedSearchModel" 3 (some .int) 1 111 [(0, vR 0), (2, vI x2)] [] (shM m) K' := by
  refine EV_aload_n 0 d_M_outside_111 rfl rfl ?_
  refine EV_get (j := 2) d_M_outside_112 shM_0 rfl fI11 (by decide) k_970 rfl ?_
  refine EV_bipush d_M_outside_115 (by decide +kernel) ⟨by decide, by decide⟩ ?_
  refine EV_icmp_ne (tgt := 134) d_M_outside_117 (by decide) (fun hc => ?_) (fun hc => ?_)
  · have H := H.1 hc
    refine EV_iconst d_M_outside_134 ⟨by decide, by decide⟩ ?_
    exact EV_iret d_M_outside_135 rfl (nw_int _) (hK _ _ H)
  · have H := H.2 hc
    refine EV_aload_n 0 d_M_outside_120 rfl rfl ?_
    refine EV_callV (as := []) (st := []) d_M_outside_121 k_1184 k_1186 kp_50 k_12 k_1187 shM_0 rfl pd_4 ⟨by decide, by decide, Nat.le_of_ble_eq_true rfl⟩ rfl (ct_M_endPiece H (fun m_1 H => ?_))
    refine EV_iload_n 1 d_M_outside_124 rfl rfl ?_
    refine EV_if_eq (tgt := 132) d_M_outside_125 (by decide) (fun hc => ?_) (fun hc => ?_)
    · have H := H.1 hc
      refine EV_iconst d_M_outside_132 ⟨by decide, by decide⟩ ?_
      exact EV_iret d_M_outside_133 rfl (nw_int _) (hK _ _ H)
    · have H := H.2 hc
      refine EV_iconst d_M_outside_128 ⟨by decide, by decide⟩ ?_
      refine EV_goto (tgt := 133) d_M_outside_129 (by decide) ?_
      exact EV_iret d_M_outside_133 rfl (nw_int _) (hK _ _ H)
theorem ct_M_outside_101 {l : Launch} {K : Int → Ob → Prop} {K' : Option AV → List AC → Prop} {x1 : Int} {x2 : Int} {m : Ob} (H : M_outside_101 x1 x2 m K) (hK : ∀ (r : Int) (m' : Ob), K r m' → K' (some (vI r)) (shM m')) : EV l prog_13_method_16_code "PrunedSearchModel" 3 (some .int) 1 101 [(0, vR 0), (1, vI x1), (2, vI x2)] [] (shM m) K' := by
  refine EV_iload_n 1 d_M_outside_101 rfl rfl ?_
  refine EV_iconst d_M_outside_102 ⟨by decide, by decide⟩ ?_
  refine EV_icmp_eq (tgt := 111) d_M_outside_103 (by decide) (fun hc => ?_) (fun hc => ?_)
  · have H := H.1 hc
    refine EV_lv (lv' := [(0, vR 0), (2, vI x2)]) [0, 2] rfl ?_
    exact ct_M_outside_111 H hK
  · have H := H.2 hc
    refine EV_iload_n 1 d_M_outside_106 rfl rfl ?_
    refine EV_iconst d_M_outside_107 ⟨by decide, by decide⟩ ?_
    refine EV_icmp_ne (tgt := 134) d_M_outside_108 (by decide) (fun hc => ?_) (fun hc => ?_)
    · have H := H.1 hc
      refine EV_iconst d_M_outside_134 ⟨by decide, by decide⟩ ?_
      exact EV_iret d_M_outside_135 rfl (nw_int _) (hK _ _ H)
    · have H := H.2 hc
      refine EV_lv (lv' := [(0, vR 0), (2, vI x2)]) [0, 2] rfl ?_
      exact ct_M_outside_111 H hK
theorem ct_M_outside_85 {l : Launch} {K : Int → Ob → Prop} {K' : Option AV → List AC → Prop} {x1 : Int} {x2 : Int} {m : Ob} (H : M_outside_85 x1 x2 m K) (hK : ∀ (r : Int) (m' : Ob), K r m' → K' (some (vI r)) (shM m')) : EV l prog_13_method_16_code "PrunedSearchModel" 3 (some .int) 1 85 [(0, vR 0), (1, vI x1), (2, vI x2)] [] (shM m) K' := by
  refine EV_iload_n 1 d_M_outside_85 rfl rfl ?_
  refine EV_iconst d_M_outside_86 ⟨by decide, by decide⟩ ?_
  refine EV_icmp_ne (tgt := 101) d_M_outside_87 (by decide) (fun hc => ?_) (fun hc => ?_)
  · have H := H.1 hc
    exact ct_M_outside_101 H hK
  · have H := H.2 hc
    refine EV_aload_n 0 d_M_outside_90 rfl rfl ?_
    refine EV_get (j := 2) d_M_outside_91 shM_0 rfl fI11 (by decide) k_970 rfl ?_
    refine EV_bipush d_M_outside_94 (by decide +kernel) ⟨by decide, by decide⟩ ?_
    refine EV_icmp_ne (tgt := 101) d_M_outside_96 (by decide) (fun hc => ?_) (fun hc => ?_)
    · have H := H.1 hc
      exact ct_M_outside_101 H hK
    · have H := H.2 hc
      refine EV_iconst d_M_outside_99 ⟨by decide, by decide⟩ ?_
      exact EV_iret d_M_outside_100 rfl (nw_int _) (hK _ _ H)
theorem ct_M_outside_72 {l : Launch} {K : Int → Ob → Prop} {K' : Option AV → List AC → Prop} {x1 : Int} {x2 : Int} {m : Ob} (H : M_outside_72 x1 x2 m K) (hK : ∀ (r : Int) (m' : Ob), K r m' → K' (some (vI r)) (shM m')) : EV l prog_13_method_16_code "PrunedSearchModel" 3 (some .int) 1 72 [(0, vR 0), (1, vI x1), (2, vI x2)] [] (shM m) K' := by
  refine EV_iload_n 1 d_M_outside_72 rfl rfl ?_
  refine EV_iconst d_M_outside_73 ⟨by decide, by decide⟩ ?_
  refine EV_icmp_ne (tgt := 85) d_M_outside_74 (by decide) (fun hc => ?_) (fun hc => ?_)
  · have H := H.1 hc
    exact ct_M_outside_85 H hK
  · have H := H.2 hc
    refine EV_aload_n 0 d_M_outside_77 rfl rfl ?_
    refine EV_get (j := 2) d_M_outside_78 shM_0 rfl fI11 (by decide) k_970 rfl ?_
    refine EV_iconst d_M_outside_81 ⟨by decide, by decide⟩ ?_
    refine EV_icmp_eq (tgt := 99) d_M_outside_82 (by decide) (fun hc => ?_) (fun hc => ?_)
    · have H := H.1 hc
      refine EV_iconst d_M_outside_99 ⟨by decide, by decide⟩ ?_
      exact EV_iret d_M_outside_100 rfl (nw_int _) (hK _ _ H)
    · have H := H.2 hc
      exact ct_M_outside_85 H hK
theorem ct_M_outside_45 {l : Launch} {K : Int → Ob → Prop} {K' : Option AV → List AC → Prop} {x1 : Int} {x2 : Int} {m : Ob} (H : M_outside_45 x1 x2 m K) (hK : ∀ (r : Int) (m' : Ob), K r m' → K' (some (vI r)) (shM m')) : EV l prog_13_method_16_code "PrunedSearchModel" 3 (some .int) 1 45 [(0, vR 0), (1, vI x1), (2, vI x2)] [] (shM m) K' := by
  refine EV_iload_n 1 d_M_outside_45 rfl rfl ?_
  refine EV_iconst d_M_outside_46 ⟨by decide, by decide⟩ ?_
  refine EV_icmp_ne (tgt := 72) d_M_outside_47 (by decide) (fun hc => ?_) (fun hc => ?_)
  · have H := H.1 hc
    exact ct_M_outside_72 H hK
  · have H := H.2 hc
    refine EV_aload_n 0 d_M_outside_50 rfl rfl ?_
    refine EV_get (j := 2) d_M_outside_51 shM_0 rfl fI11 (by decide) k_970 rfl ?_
    refine EV_bipush d_M_outside_54 (by decide +kernel) ⟨by decide, by decide⟩ ?_
    refine EV_icmp_ne (tgt := 72) d_M_outside_56 (by decide) (fun hc => ?_) (fun hc => ?_)
    · have H := H.1 hc
      exact ct_M_outside_72 H hK
    · have H := H.2 hc
      refine EV_aload_n 0 d_M_outside_59 rfl rfl ?_
      refine EV_callV (as := []) (st := []) d_M_outside_60 k_1176 k_1178 kp_48 k_12 k_1179 shM_0 rfl pd_6 ⟨by decide, by decide, Nat.le_of_ble_eq_true rfl⟩ rfl (ct_M_beginGoal H (fun m_2 H => ?_))
      refine EV_aload_n 0 d_M_outside_63 rfl rfl ?_
      refine EV_lconst (v := 0) d_M_outside_64 rfl ?_
      refine EV_bipush d_M_outside_65 (by decide +kernel) ⟨by decide, by decide⟩ ?_
      refine EV_callV (as := [vL 0, vI (-2)]) (st := []) d_M_outside_67 k_1180 k_1182 kp_49 k_12 k_1183 shM_0 rfl pd_5 ⟨by decide, by decide, Nat.le_of_ble_eq_true rfl⟩ rfl (ct_M_emit H (fun m_3 H => ?_))
      refine EV_iconst d_M_outside_70 ⟨by decide, by decide⟩ ?_
      exact EV_iret d_M_outside_71 rfl (nw_int _) (hK _ _ H)
theorem ct_M_outside_32 {l : Launch} {K : Int → Ob → Prop} {K' : Option AV → List AC → Prop} {x1 : Int} {m : Ob} (H : M_outside_32 x1 m K) (hK : ∀ (r : Int) (m' : Ob), K r m' → K' (some (vI r)) (shM m')) : EV l prog_13_method_16_code "PrunedSearchModel" 3 (some .int) 1 32 [(0, vR 0), (1, vI x1)] [] (shM m) K' := by
  refine EV_aload_n 0 d_M_outside_32 rfl rfl ?_
  refine EV_aload_n 0 d_M_outside_33 rfl rfl ?_
  refine EV_get (j := 5) d_M_outside_34 shM_0 rfl fI11 (by decide) k_973 rfl ?_
  refine EV_iconst d_M_outside_37 ⟨by decide, by decide⟩ ?_
  refine EV_callV (as := [vL (m.2.2.1 0), vI 0]) (st := []) d_M_outside_38 k_1180 k_1182 kp_49 k_12 k_1183 shM_0 rfl pd_5 ⟨by decide, by decide, Nat.le_of_ble_eq_true rfl⟩ rfl (ct_M_emit H (fun m_5 H => ?_))
  refine EV_iload_n 1 d_M_outside_41 rfl rfl ?_
  refine EV_iconst d_M_outside_42 ⟨by decide, by decide⟩ ?_
  obtain ⟨hr, H⟩ := H
  refine EV_iadd d_M_outside_43 hr ?_
  exact EV_iret d_M_outside_44 rfl (nw_int _) (hK _ _ H)
theorem ct_M_outside_9 {l : Launch} {K : Int → Ob → Prop} {K' : Option AV → List AC → Prop} {x1 : Int} {x2 : Int} {m : Ob} (H : M_outside_9 x1 x2 m K) (hK : ∀ (r : Int) (m' : Ob), K r m' → K' (some (vI r)) (shM m')) : EV l prog_13_method_16_code "PrunedSearchModel" 3 (some .int) 1 9 [(0, vR 0), (1, vI x1), (2, vI x2)] [] (shM m) K' := by
  refine EV_aload_n 0 d_M_outside_9 rfl rfl ?_
  refine EV_get (j := 2) d_M_outside_10 shM_0 rfl fI11 (by decide) k_970 rfl ?_
  refine EV_iconst d_M_outside_13 ⟨by decide, by decide⟩ ?_
  refine EV_icmp_ne (tgt := 45) d_M_outside_14 (by decide) (fun hc => ?_) (fun hc => ?_)
  · have H := H.1 hc
    exact ct_M_outside_45 H hK
  · have H := H.2 hc
    refine EV_iload_n 1 d_M_outside_17 rfl rfl ?_
    refine EV_if_ne (tgt := 28) d_M_outside_18 (by decide) (fun hc => ?_) (fun hc => ?_)
    · have H := H.1 hc
      refine EV_aload_n 0 d_M_outside_28 rfl rfl ?_
      refine EV_callV (as := []) (st := []) d_M_outside_29 k_1176 k_1178 kp_48 k_12 k_1179 shM_0 rfl pd_6 ⟨by decide, by decide, Nat.le_of_ble_eq_true rfl⟩ rfl (ct_M_beginGoal H (fun m_4 H => ?_))
      refine EV_lv (lv' := [(0, vR 0), (1, vI x1)]) [0, 1] rfl ?_
      exact ct_M_outside_32 H hK
    · have H := H.2 hc
      refine EV_aload_n 0 d_M_outside_21 rfl rfl ?_
      refine EV_callV (as := []) (st := []) d_M_outside_22 k_1156 k_1158 kp_43 k_12 k_1159 shM_0 rfl pd_7 ⟨by decide, by decide, Nat.le_of_ble_eq_true rfl⟩ rfl (ct_M_beginPiece H (fun m_6 H => ?_))
      refine EV_goto (tgt := 32) d_M_outside_25 (by decide) ?_
      refine EV_lv (lv' := [(0, vR 0), (1, vI x1)]) [0, 1] rfl ?_
      exact ct_M_outside_32 H hK
theorem ct_M_outside {l : Launch} {m : Ob} {x1 : Int} {x2 : Int} {K : Int → Ob → Prop} {K' : Option AV → List AC → Prop} (H : wp_M_outside x1 x2 m K) (hK : ∀ (r : Int) (m' : Ob), K r m' → K' (some (vI r)) (shM m')) : MT l ⟨"PrunedSearchModel", "outside", "(IZ)I"⟩ prog_13_method_16_code 3 (some .int) 1 [vR 0, vI x1, vI x2] (shM m) K' := by
  unfold wp_M_outside at H
  refine MT_of (lv := [(0, vR 0), (1, vI x1), (2, vI x2)]) rfl rfl (Nat.le_of_ble_eq_true rfl) rfl ?_
  refine EV_iload_n 1 d_M_outside_0 rfl rfl ?_
  refine EV_if_eq (tgt := 9) d_M_outside_1 (by decide) (fun hc => ?_) (fun hc => ?_)
  · have H := H.1 hc
    exact ct_M_outside_9 H hK
  · have H := H.2 hc
    refine EV_iload_n 1 d_M_outside_4 rfl rfl ?_
    refine EV_iconst d_M_outside_5 ⟨by decide, by decide⟩ ?_
    refine EV_icmp_ne (tgt := 45) d_M_outside_6 (by decide) (fun hc => ?_) (fun hc => ?_)
    · have H := H.1 hc
      exact ct_M_outside_45 H hK
    · have H := H.2 hc
      exact ct_M_outside_9 H hK
theorem ct_M_emitVariable_94 {l : Launch} {K : Ob → Prop} {K' : Option AV → List AC → Prop} {x1 : Int} {m : Ob} (H : M_emitVariable_94 x1 m K) (hK : ∀ (m' : Ob), K m' → K' none (shM m')) : EV l prog_13_method_9_code "PrunedSearchModel" 3 none 1 94 [(0, vR 0), (1, vI x1)] [] (shM m) K' := by
  refine EV_aload_n 0 d_M_emitVariable_94 rfl rfl ?_
  refine EV_iload_n 1 d_M_emitVariable_95 rfl rfl ?_
  obtain ⟨h0, H⟩ := H
  refine EV_i2l d_M_emitVariable_96 h0 ?_
  refine EV_iconst d_M_emitVariable_97 ⟨by decide, by decide⟩ ?_
  refine EV_callV (as := [vL ((x1).toNat), vI (-1)]) (st := []) d_M_emitVariable_98 k_1180 k_1182 kp_49 k_12 k_1183 shM_0 rfl pd_5 ⟨by decide, by decide, Nat.le_of_ble_eq_true rfl⟩ rfl (ct_M_emit H (fun m_1 H => ?_))
  exact EV_vret d_M_emitVariable_101 rfl (hK _ H)
theorem ct_M_emitVariable_49 {l : Launch} {K : Ob → Prop} {K' : Option AV → List AC → Prop} {x1 : Int} {m : Ob} (H : M_emitVariable_49 x1 m K) (hK : ∀ (m' : Ob), K m' → K' none (shM m')) : EV l prog_13_method_9_code "PrunedSearchModel" 3 none 1 49 [(0, vR 0), (1, vI x1)] [] (shM m) K' := by
  refine EV_iload_n 1 d_M_emitVariable_49 rfl rfl ?_
  refine EV_if_ge (tgt := 94) d_M_emitVariable_50 (by decide) (fun hc => ?_) (fun hc => ?_)
  · have H := H.1 hc
    exact ct_M_emitVariable_94 H hK
  · have H := H.2 hc
    refine EV_aload_n 0 d_M_emitVariable_53 rfl rfl ?_
    refine EV_get (j := 17) d_M_emitVariable_54 shM_0 rfl fI11 (by decide) k_985 rfl ?_
    refine EV_istore_n (lv' := [(0, vR 0), (1, vI (m.1 7))]) [1, 0] d_M_emitVariable_57 rfl (by decide) rfl ?_
    refine EV_aload_n 0 d_M_emitVariable_58 rfl rfl ?_
    refine EV_get (j := 15) d_M_emitVariable_59 shM_0 rfl fI11 (by decide) k_983 rfl ?_
    refine EV_aload_n 0 d_M_emitVariable_62 rfl rfl ?_
    refine EV_get (j := 17) d_M_emitVariable_63 shM_0 rfl fI11 (by decide) k_985 rfl ?_
    refine EV_aload_n 0 d_M_emitVariable_66 rfl rfl ?_
    refine EV_get (j := 5) d_M_emitVariable_67 shM_0 rfl fI11 (by decide) k_973 rfl ?_
    obtain ⟨hi, H⟩ := H
    refine EV_last d_M_emitVariable_70 shM_8 hi shM_8_s ?_
    refine EV_aload_n 0 d_M_emitVariable_71 rfl rfl ?_
    refine EV_get (j := 16) d_M_emitVariable_72 shM_0 rfl fI11 (by decide) k_984 rfl ?_
    refine EV_aload_n 0 d_M_emitVariable_75 rfl rfl ?_
    refine EV_get (j := 17) d_M_emitVariable_76 shM_0 rfl fI11 (by decide) k_985 rfl ?_
    refine EV_aload_n 0 d_M_emitVariable_79 rfl rfl ?_
    refine EV_get (j := 8) d_M_emitVariable_80 shM_0 rfl fI11 (by decide) k_976 rfl ?_
    obtain ⟨hi, H⟩ := H
    refine EV_iast d_M_emitVariable_83 shM_9 hi shM_9_s ?_
    refine EV_aload_n 0 d_M_emitVariable_84 rfl rfl ?_
    refine EV_aload_n 0 d_M_emitVariable_85 rfl rfl ?_
    refine EV_get (j := 17) d_M_emitVariable_86 shM_0 rfl fI11 (by decide) k_985 rfl ?_
    refine EV_iconst d_M_emitVariable_89 ⟨by decide, by decide⟩ ?_
    obtain ⟨hr, H⟩ := H
    refine EV_iadd d_M_emitVariable_90 hr ?_
    refine EV_put (j := 17) d_M_emitVariable_91 shM_0 rfl fI11 fO11 fN11 (by decide) k_985 rfl rfl (fun ad => nf_int ad _) (Nat.le_of_ble_eq_true rfl) shM_0_17 ?_
    exact ct_M_emitVariable_94 H hK
theorem ct_M_emitVariable_42 {l : Launch} {K : Ob → Prop} {K' : Option AV → List AC → Prop} {L4 : Int → Int → Ob → Prop} {x2 : Int} {s0 : Int} {m : Ob} (hL4 : ∀ (x1 : Int) (x2 : Int) (m : Ob), L4 x1 x2 m → EV l prog_13_method_9_code "PrunedSearchModel" 3 none 1 4 [(0, vR 0), (1, vI x1), (2, vI x2)] [] (shM m) K') (H : M_emitVariable_42 L4 x2 s0 m K) (hK : ∀ (m' : Ob), K m' → K' none (shM m')) : EV l prog_13_method_9_code "PrunedSearchModel" 3 none 1 42 [(0, vR 0), (2, vI x2)] [vI s0] (shM m) K' := by
  refine EV_istore_n (lv' := [(0, vR 0), (1, vI s0), (2, vI x2)]) [1, 0, 2] d_M_emitVariable_42 rfl (by decide) rfl ?_
  obtain ⟨hr, H⟩ := H
  refine EV_iinc (lv' := [(0, vR 0), (1, vI s0), (2, vI (x2 + 1))]) 2 [1, 2, 0] d_M_emitVariable_43 rfl (by decide) hr rfl ?_
  refine EV_goto (tgt := 4) d_M_emitVariable_46 (by decide) ?_
  exact hL4 s0 (x2 + 1) m H
theorem ct_M_emitVariable_41 {l : Launch} {K : Ob → Prop} {K' : Option AV → List AC → Prop} {L4 : Int → Int → Ob → Prop} {x1 : Int} {x2 : Int} {m : Ob} (hL4 : ∀ (x1 : Int) (x2 : Int) (m : Ob), L4 x1 x2 m → EV l prog_13_method_9_code "PrunedSearchModel" 3 none 1 4 [(0, vR 0), (1, vI x1), (2, vI x2)] [] (shM m) K') (H : M_emitVariable_41 L4 x1 x2 m K) (hK : ∀ (m' : Ob), K m' → K' none (shM m')) : EV l prog_13_method_9_code "PrunedSearchModel" 3 none 1 41 [(0, vR 0), (1, vI x1), (2, vI x2)] [] (shM m) K' := by
  refine EV_iload_n 1 d_M_emitVariable_41 rfl rfl ?_
  refine EV_lv (lv' := [(0, vR 0), (2, vI x2)]) [0, 2] rfl ?_
  exact ct_M_emitVariable_42 hL4 H hK
theorem ct_M_emitVariable_4 {l : Launch} {K : Ob → Prop} {K' : Option AV → List AC → Prop} (hK : ∀ (m' : Ob), K m' → K' none (shM m')) : ∀ (n : Nat) (x1 : Int) (x2 : Int) (m : Ob), M_emitVariable_4 n x1 x2 m K → EV l prog_13_method_9_code "PrunedSearchModel" 3 none 1 4 [(0, vR 0), (1, vI x1), (2, vI x2)] [] (shM m) K' := by
  intro n
  induction n with
  | zero =>
    intro x1 x2 m H
    exact H.elim
  | succ n ih =>
    intro x1 x2 m H
    refine EV_iload_n 2 d_M_emitVariable_4 rfl rfl ?_
    refine EV_aload_n 0 d_M_emitVariable_5 rfl rfl ?_
    refine EV_get (j := 17) d_M_emitVariable_6 shM_0 rfl fI11 (by decide) k_985 rfl ?_
    refine EV_icmp_ge (tgt := 49) d_M_emitVariable_9 (by decide) (fun hc => ?_) (fun hc => ?_)
    · have H := H.1 hc
      refine EV_lv (lv' := [(0, vR 0), (1, vI x1)]) [0, 1] rfl ?_
      exact ct_M_emitVariable_49 H hK
    · have H := H.2 hc
      refine EV_aload_n 0 d_M_emitVariable_12 rfl rfl ?_
      refine EV_get (j := 5) d_M_emitVariable_13 shM_0 rfl fI11 (by decide) k_973 rfl ?_
      refine EV_ldc2 (n := 95) d_M_emitVariable_16 k_1197 (by decide +kernel) (by decide) ?_
      refine EV_lcmp_eq (tgt := 41) d_M_emitVariable_19 d_M_emitVariable_20 (by decide) (fun hc => ?_) (fun hc => ?_)
      · have H := H.1 hc
        exact ct_M_emitVariable_41 (fun x1 x2 m' H => ih x1 x2 m' H) H hK
      · have H := H.2 hc
        refine EV_aload_n 0 d_M_emitVariable_23 rfl rfl ?_
        refine EV_get (j := 15) d_M_emitVariable_24 shM_0 rfl fI11 (by decide) k_983 rfl ?_
        refine EV_iload_n 2 d_M_emitVariable_27 rfl rfl ?_
        obtain ⟨hi, H⟩ := H
        refine EV_lald d_M_emitVariable_28 shM_8 hi ?_
        refine EV_aload_n 0 d_M_emitVariable_29 rfl rfl ?_
        refine EV_get (j := 5) d_M_emitVariable_30 shM_0 rfl fI11 (by decide) k_973 rfl ?_
        refine EV_lcmp_ne (tgt := 41) d_M_emitVariable_33 d_M_emitVariable_34 (by decide) (fun hc => ?_) (fun hc => ?_)
        · have H := H.1 hc
          exact ct_M_emitVariable_41 (fun x1 x2 m' H => ih x1 x2 m' H) H hK
        · have H := H.2 hc
          refine EV_iload_n 2 d_M_emitVariable_37 rfl rfl ?_
          refine EV_goto (tgt := 42) d_M_emitVariable_38 (by decide) ?_
          refine EV_lv (lv' := [(0, vR 0), (2, vI x2)]) [0, 2] rfl ?_
          exact ct_M_emitVariable_42 (fun x1 x2 m' H => ih x1 x2 m' H) H hK
theorem ct_M_emitVariable {l : Launch} {m : Ob} {K : Ob → Prop} {K' : Option AV → List AC → Prop} (H : wp_M_emitVariable m K) (hK : ∀ (m' : Ob), K m' → K' none (shM m')) : MT l ⟨"PrunedSearchModel", "emitVariable", "()V"⟩ prog_13_method_9_code 3 none 1 [vR 0] (shM m) K' := by
  unfold wp_M_emitVariable at H
  refine MT_of (lv := [(0, vR 0)]) rfl rfl (Nat.le_of_ble_eq_true rfl) rfl ?_
  refine EV_iconst d_M_emitVariable_0 ⟨by decide, by decide⟩ ?_
  refine EV_istore_n (lv' := [(0, vR 0), (1, vI (-1))]) [1, 0] d_M_emitVariable_1 rfl (by decide) rfl ?_
  refine EV_iconst d_M_emitVariable_2 ⟨by decide, by decide⟩ ?_
  refine EV_istore_n (lv' := [(0, vR 0), (1, vI (-1)), (2, vI 0)]) [1, 2, 0] d_M_emitVariable_3 rfl (by decide) rfl ?_
  obtain ⟨n, H⟩ := H
  exact ct_M_emitVariable_4 hK n (-1) 0 m H
theorem ct_M_beginTerm_55 {l : Launch} {K : Int → Ob → Prop} {K' : Option AV → List AC → Prop} {m : Ob} (H : M_beginTerm_55 m K) (hK : ∀ (r : Int) (m' : Ob), K r m' → K' (some (vI r)) (shM m')) : EV l prog_13_method_14_code "PrunedSearchModel" 1 (some .boolean) 2 55 [(0, vR 0)] [] (shM m) K' := by
  refine EV_aload_n 0 d_M_beginTerm_55 rfl rfl ?_
  refine EV_iconst d_M_beginTerm_56 ⟨by decide, by decide⟩ ?_
  refine EV_put (j := 22) d_M_beginTerm_57 shM_0 rfl fI11 fO11 fN11 (by decide) k_990 rfl rfl (fun ad => nf_bool ad (by decide)) (Nat.le_of_ble_eq_true rfl) shM_0_22 ?_
  refine EV_aload_n 0 d_M_beginTerm_60 rfl rfl ?_
  refine EV_get (j := 2) d_M_beginTerm_61 shM_0 rfl fI11 (by decide) k_970 rfl ?_
  refine EV_iconst d_M_beginTerm_64 ⟨by decide, by decide⟩ ?_
  refine EV_icmp_ne (tgt := 80) d_M_beginTerm_65 (by decide) (fun hc => ?_) (fun hc => ?_)
  · have H := H.1 hc
    refine EV_aload_n 0 d_M_beginTerm_80 rfl rfl ?_
    refine EV_get (j := 2) d_M_beginTerm_81 shM_0 rfl fI11 (by decide) k_970 rfl ?_
    refine EV_iconst d_M_beginTerm_84 ⟨by decide, by decide⟩ ?_
    refine EV_icmp_ne (tgt := 95) d_M_beginTerm_85 (by decide) (fun hc => ?_) (fun hc => ?_)
    · have H := H.1 hc
      refine EV_aload_n 0 d_M_beginTerm_95 rfl rfl ?_
      refine EV_iconst d_M_beginTerm_96 ⟨by decide, by decide⟩ ?_
      refine EV_callV (as := [vI 1]) (st := []) d_M_beginTerm_97 k_1168 k_1170 kp_46 k_12 k_1171 shM_0 rfl pd_8 ⟨by decide, by decide, Nat.le_of_ble_eq_true rfl⟩ rfl (ct_M_push H (fun r_2 m_1 H => ?_))
      refine EV_if_ne (tgt := 105) d_M_beginTerm_100 (by decide) (fun hc => ?_) (fun hc => ?_)
      · have H := H.1 hc
        refine EV_aload_n 0 d_M_beginTerm_105 rfl rfl ?_
        refine EV_iconst d_M_beginTerm_106 ⟨by decide, by decide⟩ ?_
        refine EV_put (j := 22) d_M_beginTerm_107 shM_0 rfl fI11 fO11 fN11 (by decide) k_990 rfl rfl (fun ad => nf_bool ad (by decide)) (Nat.le_of_ble_eq_true rfl) shM_0_22 ?_
        refine EV_iconst d_M_beginTerm_110 ⟨by decide, by decide⟩ ?_
        exact EV_iret d_M_beginTerm_111 rfl (nw_bool (by decide)) (hK _ _ H)
      · have H := H.2 hc
        refine EV_iconst d_M_beginTerm_103 ⟨by decide, by decide⟩ ?_
        exact EV_iret d_M_beginTerm_104 rfl (nw_bool (by decide)) (hK _ _ H)
    · have H := H.2 hc
      refine EV_aload_n 0 d_M_beginTerm_88 rfl rfl ?_
      refine EV_callV (as := []) (st := []) d_M_beginTerm_89 k_1193 k_1195 kp_52 k_12 k_1196 shM_0 rfl pd_9 ⟨by decide, by decide, Nat.le_of_ble_eq_true rfl⟩ rfl (ct_M_emitVariable H (fun m_3 H => ?_))
      refine EV_goto (tgt := 110) d_M_beginTerm_92 (by decide) ?_
      refine EV_iconst d_M_beginTerm_110 ⟨by decide, by decide⟩ ?_
      exact EV_iret d_M_beginTerm_111 rfl (nw_bool (by decide)) (hK _ _ H)
  · have H := H.2 hc
    refine EV_aload_n 0 d_M_beginTerm_68 rfl rfl ?_
    refine EV_aload_n 0 d_M_beginTerm_69 rfl rfl ?_
    refine EV_get (j := 5) d_M_beginTerm_70 shM_0 rfl fI11 (by decide) k_973 rfl ?_
    refine EV_iconst d_M_beginTerm_73 ⟨by decide, by decide⟩ ?_
    refine EV_callV (as := [vL (m.2.2.1 0), vI 0]) (st := []) d_M_beginTerm_74 k_1180 k_1182 kp_49 k_12 k_1183 shM_0 rfl pd_5 ⟨by decide, by decide, Nat.le_of_ble_eq_true rfl⟩ rfl (ct_M_emit H (fun m_4 H => ?_))
    refine EV_goto (tgt := 110) d_M_beginTerm_77 (by decide) ?_
    refine EV_iconst d_M_beginTerm_110 ⟨by decide, by decide⟩ ?_
    exact EV_iret d_M_beginTerm_111 rfl (nw_bool (by decide)) (hK _ _ H)
theorem ct_M_beginTerm_27 {l : Launch} {K : Int → Ob → Prop} {K' : Option AV → List AC → Prop} {m : Ob} (H : M_beginTerm_27 m K) (hK : ∀ (r : Int) (m' : Ob), K r m' → K' (some (vI r)) (shM m')) : EV l prog_13_method_14_code "PrunedSearchModel" 1 (some .boolean) 2 27 [(0, vR 0)] [] (shM m) K' := by
  refine EV_aload_n 0 d_M_beginTerm_27 rfl rfl ?_
  refine EV_get (j := 19) d_M_beginTerm_28 shM_0 rfl fI11 (by decide) k_987 rfl ?_
  refine EV_aload_n 0 d_M_beginTerm_31 rfl rfl ?_
  refine EV_get (j := 18) d_M_beginTerm_32 shM_0 rfl fI11 (by decide) k_986 rfl ?_
  refine EV_iconst d_M_beginTerm_35 ⟨by decide, by decide⟩ ?_
  obtain ⟨hr, H⟩ := H
  refine EV_isub d_M_beginTerm_36 hr ?_
  obtain ⟨hi, H⟩ := H
  refine EV_iald d_M_beginTerm_37 shM_10 hi ?_
  refine EV_iconst d_M_beginTerm_38 ⟨by decide, by decide⟩ ?_
  refine EV_icmp_ne (tgt := 55) d_M_beginTerm_39 (by decide) (fun hc => ?_) (fun hc => ?_)
  · have H := H.1 hc
    exact ct_M_beginTerm_55 H hK
  · have H := H.2 hc
    refine EV_aload_n 0 d_M_beginTerm_42 rfl rfl ?_
    refine EV_get (j := 22) d_M_beginTerm_43 shM_0 rfl fI11 (by decide) k_990 rfl ?_
    refine EV_if_eq (tgt := 55) d_M_beginTerm_46 (by decide) (fun hc => ?_) (fun hc => ?_)
    · have H := H.1 hc
      exact ct_M_beginTerm_55 H hK
    · have H := H.2 hc
      refine EV_aload_n 0 d_M_beginTerm_49 rfl rfl ?_
      refine EV_lconst (v := 1) d_M_beginTerm_50 rfl ?_
      refine EV_iconst d_M_beginTerm_51 ⟨by decide, by decide⟩ ?_
      refine EV_callV (as := [vL 1, vI 2]) (st := []) d_M_beginTerm_52 k_1180 k_1182 kp_49 k_12 k_1183 shM_0 rfl pd_5 ⟨by decide, by decide, Nat.le_of_ble_eq_true rfl⟩ rfl (ct_M_emit H (fun m_5 H => ?_))
      exact ct_M_beginTerm_55 H hK
theorem ct_M_beginTerm {l : Launch} {m : Ob} {K : Int → Ob → Prop} {K' : Option AV → List AC → Prop} (H : wp_M_beginTerm m K) (hK : ∀ (r : Int) (m' : Ob), K r m' → K' (some (vI r)) (shM m')) : MT l ⟨"PrunedSearchModel", "beginTerm", "()Z"⟩ prog_13_method_14_code 1 (some .boolean) 2 [vR 0] (shM m) K' := by
  unfold wp_M_beginTerm at H
  refine MT_of (lv := [(0, vR 0)]) rfl rfl (Nat.le_of_ble_eq_true rfl) rfl ?_
  refine EV_aload_n 0 d_M_beginTerm_0 rfl rfl ?_
  refine EV_get (j := 2) d_M_beginTerm_1 shM_0 rfl fI11 (by decide) k_970 rfl ?_
  refine EV_iconst d_M_beginTerm_4 ⟨by decide, by decide⟩ ?_
  refine EV_icmp_eq (tgt := 27) d_M_beginTerm_5 (by decide) (fun hc => ?_) (fun hc => ?_)
  · have H := H.1 hc
    exact ct_M_beginTerm_27 H hK
  · have H := H.2 hc
    refine EV_aload_n 0 d_M_beginTerm_8 rfl rfl ?_
    refine EV_get (j := 2) d_M_beginTerm_9 shM_0 rfl fI11 (by decide) k_970 rfl ?_
    refine EV_iconst d_M_beginTerm_12 ⟨by decide, by decide⟩ ?_
    refine EV_icmp_eq (tgt := 27) d_M_beginTerm_13 (by decide) (fun hc => ?_) (fun hc => ?_)
    · have H := H.1 hc
      exact ct_M_beginTerm_27 H hK
    · have H := H.2 hc
      refine EV_aload_n 0 d_M_beginTerm_16 rfl rfl ?_
      refine EV_get (j := 2) d_M_beginTerm_17 shM_0 rfl fI11 (by decide) k_970 rfl ?_
      refine EV_bipush d_M_beginTerm_20 (by decide +kernel) ⟨by decide, by decide⟩ ?_
      refine EV_icmp_eq (tgt := 27) d_M_beginTerm_22 (by decide) (fun hc => ?_) (fun hc => ?_)
      · have H := H.1 hc
        exact ct_M_beginTerm_27 H hK
      · have H := H.2 hc
        refine EV_iconst d_M_beginTerm_25 ⟨by decide, by decide⟩ ?_
        exact EV_iret d_M_beginTerm_26 rfl (nw_bool (by decide)) (hK _ _ H)
theorem ct_M_goOn_146 {l : Launch} {K : Int → Ob → Prop} {K' : Option AV → List AC → Prop} {x1 : Int} {m : Ob} (H : M_goOn_146 x1 m K) (hK : ∀ (r : Int) (m' : Ob), K r m' → K' (some (vI r)) (shM m')) : EV l prog_13_method_15_code "PrunedSearchModel" 2 (some .boolean) 1 146 [(0, vR 0), (1, vI x1)] [] (shM m) K' := by
  refine EV_aload_n 0 d_M_goOn_146 rfl rfl ?_
  refine EV_get (j := 2) d_M_goOn_147 shM_0 rfl fI11 (by decide) k_970 rfl ?_
  refine EV_bipush d_M_goOn_150 (by decide +kernel) ⟨by decide, by decide⟩ ?_
  refine EV_icmp_ne (tgt := 174) d_M_goOn_152 (by decide) (fun hc => ?_) (fun hc => ?_)
  · have H := H.1 hc
    refine EV_iconst d_M_goOn_174 ⟨by decide, by decide⟩ ?_
    exact EV_iret d_M_goOn_175 rfl (nw_bool (by decide)) (hK _ _ H)
  · have H := H.2 hc
    refine EV_aload_n 0 d_M_goOn_155 rfl rfl ?_
    refine EV_get (j := 19) d_M_goOn_156 shM_0 rfl fI11 (by decide) k_987 rfl ?_
    refine EV_iload_n 1 d_M_goOn_159 rfl rfl ?_
    obtain ⟨hi, H⟩ := H
    refine EV_iald d_M_goOn_160 shM_10 hi ?_
    refine EV_iconst d_M_goOn_161 ⟨by decide, by decide⟩ ?_
    refine EV_icmp_ne (tgt := 174) d_M_goOn_162 (by decide) (fun hc => ?_) (fun hc => ?_)
    · have H := H.1 hc
      refine EV_iconst d_M_goOn_174 ⟨by decide, by decide⟩ ?_
      exact EV_iret d_M_goOn_175 rfl (nw_bool (by decide)) (hK _ _ H)
    · have H := H.2 hc
      refine EV_aload_n 0 d_M_goOn_165 rfl rfl ?_
      refine EV_get (j := 19) d_M_goOn_166 shM_0 rfl fI11 (by decide) k_987 rfl ?_
      refine EV_iload_n 1 d_M_goOn_169 rfl rfl ?_
      refine EV_iconst d_M_goOn_170 ⟨by decide, by decide⟩ ?_
      obtain ⟨hi, H⟩ := H
      refine EV_iast d_M_goOn_171 shM_10 hi shM_10_s ?_
      refine EV_iconst d_M_goOn_172 ⟨by decide, by decide⟩ ?_
      exact EV_iret d_M_goOn_173 rfl (nw_bool (by decide)) (hK _ _ H)
theorem ct_M_goOn_139 {l : Launch} {K : Int → Ob → Prop} {K' : Option AV → List AC → Prop} {x1 : Int} {m : Ob} (H : M_goOn_139 x1 m K) (hK : ∀ (r : Int) (m' : Ob), K r m' → K' (some (vI r)) (shM m')) : EV l prog_13_method_15_code "PrunedSearchModel" 2 (some .boolean) 1 139 [(0, vR 0), (1, vI x1)] [] (shM m) K' := by
  refine EV_aload_n 0 d_M_goOn_139 rfl rfl ?_
  refine EV_iload_n 1 d_M_goOn_140 rfl rfl ?_
  refine EV_put (j := 18) d_M_goOn_141 shM_0 rfl fI11 fO11 fN11 (by decide) k_986 rfl rfl (fun ad => nf_int ad _) (Nat.le_of_ble_eq_true rfl) shM_0_18 ?_
  refine EV_iconst d_M_goOn_144 ⟨by decide, by decide⟩ ?_
  exact EV_iret d_M_goOn_145 rfl (nw_bool (by decide)) (hK _ _ H)
theorem ct_M_goOn_103 {l : Launch} {K : Int → Ob → Prop} {K' : Option AV → List AC → Prop} {x1 : Int} {m : Ob} (H : M_goOn_103 x1 m K) (hK : ∀ (r : Int) (m' : Ob), K r m' → K' (some (vI r)) (shM m')) : EV l prog_13_method_15_code "PrunedSearchModel" 2 (some .boolean) 1 103 [(0, vR 0), (1, vI x1)] [] (shM m) K' := by
  refine EV_aload_n 0 d_M_goOn_103 rfl rfl ?_
  refine EV_get (j := 2) d_M_goOn_104 shM_0 rfl fI11 (by decide) k_970 rfl ?_
  refine EV_bipush d_M_goOn_107 (by decide +kernel) ⟨by decide, by decide⟩ ?_
  refine EV_icmp_ne (tgt := 146) d_M_goOn_109 (by decide) (fun hc => ?_) (fun hc => ?_)
  · have H := H.1 hc
    exact ct_M_goOn_146 H hK
  · have H := H.2 hc
    refine EV_aload_n 0 d_M_goOn_112 rfl rfl ?_
    refine EV_get (j := 19) d_M_goOn_113 shM_0 rfl fI11 (by decide) k_987 rfl ?_
    refine EV_iload_n 1 d_M_goOn_116 rfl rfl ?_
    obtain ⟨hi, H⟩ := H
    refine EV_iald d_M_goOn_117 shM_10 hi ?_
    refine EV_if_le (tgt := 146) d_M_goOn_118 (by decide) (fun hc => ?_) (fun hc => ?_)
    · have H := H.1 hc
      exact ct_M_goOn_146 H hK
    · have H := H.2 hc
      refine EV_aload_n 0 d_M_goOn_121 rfl rfl ?_
      refine EV_get (j := 19) d_M_goOn_122 shM_0 rfl fI11 (by decide) k_987 rfl ?_
      refine EV_iload_n 1 d_M_goOn_125 rfl rfl ?_
      obtain ⟨hi, H⟩ := H
      refine EV_iald d_M_goOn_126 shM_10 hi ?_
      refine EV_iconst d_M_goOn_127 ⟨by decide, by decide⟩ ?_
      refine EV_icmp_ne (tgt := 139) d_M_goOn_128 (by decide) (fun hc => ?_) (fun hc => ?_)
      · have H := H.1 hc
        exact ct_M_goOn_139 H hK
      · have H := H.2 hc
        refine EV_aload_n 0 d_M_goOn_131 rfl rfl ?_
        refine EV_ldc2 (n := 2) d_M_goOn_132 k_1188 (by decide +kernel) (by decide) ?_
        refine EV_iconst d_M_goOn_135 ⟨by decide, by decide⟩ ?_
        refine EV_callV (as := [vL 2, vI 0]) (st := []) d_M_goOn_136 k_1180 k_1182 kp_49 k_12 k_1183 shM_0 rfl pd_5 ⟨by decide, by decide, Nat.le_of_ble_eq_true rfl⟩ rfl (ct_M_emit H (fun m_1 H => ?_))
        exact ct_M_goOn_139 H hK
theorem ct_M_goOn_61 {l : Launch} {K : Int → Ob → Prop} {K' : Option AV → List AC → Prop} {x1 : Int} {m : Ob} (H : M_goOn_61 x1 m K) (hK : ∀ (r : Int) (m' : Ob), K r m' → K' (some (vI r)) (shM m')) : EV l prog_13_method_15_code "PrunedSearchModel" 2 (some .boolean) 1 61 [(0, vR 0), (1, vI x1)] [] (shM m) K' := by
  refine EV_aload_n 0 d_M_goOn_61 rfl rfl ?_
  refine EV_get (j := 2) d_M_goOn_62 shM_0 rfl fI11 (by decide) k_970 rfl ?_
  refine EV_bipush d_M_goOn_65 (by decide +kernel) ⟨by decide, by decide⟩ ?_
  refine EV_icmp_ne (tgt := 103) d_M_goOn_67 (by decide) (fun hc => ?_) (fun hc => ?_)
  · have H := H.1 hc
    exact ct_M_goOn_103 H hK
  · have H := H.2 hc
    refine EV_aload_n 0 d_M_goOn_70 rfl rfl ?_
    refine EV_get (j := 19) d_M_goOn_71 shM_0 rfl fI11 (by decide) k_987 rfl ?_
    refine EV_iload_n 1 d_M_goOn_74 rfl rfl ?_
    obtain ⟨hi, H⟩ := H
    refine EV_iald d_M_goOn_75 shM_10 hi ?_
    refine EV_if_ne (tgt := 103) d_M_goOn_76 (by decide) (fun hc => ?_) (fun hc => ?_)
    · have H := H.1 hc
      exact ct_M_goOn_103 H hK
    · have H := H.2 hc
      refine EV_aload_n 0 d_M_goOn_79 rfl rfl ?_
      refine EV_get (j := 7) d_M_goOn_80 shM_0 rfl fI11 (by decide) k_975 rfl ?_
      refine EV_aload_n 0 d_M_goOn_83 rfl rfl ?_
      refine EV_get (j := 20) d_M_goOn_84 shM_0 rfl fI11 (by decide) k_988 rfl ?_
      refine EV_iload_n 1 d_M_goOn_87 rfl rfl ?_
      obtain ⟨hi, H⟩ := H
      refine EV_iald d_M_goOn_88 shM_11 hi ?_
      refine EV_aload_n 0 d_M_goOn_89 rfl rfl ?_
      refine EV_get (j := 21) d_M_goOn_90 shM_0 rfl fI11 (by decide) k_989 rfl ?_
      refine EV_iload_n 1 d_M_goOn_93 rfl rfl ?_
      obtain ⟨hi, H⟩ := H
      refine EV_iald d_M_goOn_94 shM_12 hi ?_
      obtain ⟨hi, H⟩ := H
      refine EV_iast d_M_goOn_95 shM_3 hi shM_3_s ?_
      refine EV_aload_n 0 d_M_goOn_96 rfl rfl ?_
      refine EV_iload_n 1 d_M_goOn_97 rfl rfl ?_
      refine EV_put (j := 18) d_M_goOn_98 shM_0 rfl fI11 fO11 fN11 (by decide) k_986 rfl rfl (fun ad => nf_int ad _) (Nat.le_of_ble_eq_true rfl) shM_0_18 ?_
      refine EV_iconst d_M_goOn_101 ⟨by decide, by decide⟩ ?_
      exact EV_iret d_M_goOn_102 rfl (nw_bool (by decide)) (hK _ _ H)
theorem ct_M_goOn_56 {l : Launch} {K : Int → Ob → Prop} {K' : Option AV → List AC → Prop} {s0 : Int} {m : Ob} (H : M_goOn_56 s0 m K) (hK : ∀ (r : Int) (m' : Ob), K r m' → K' (some (vI r)) (shM m')) : EV l prog_13_method_15_code "PrunedSearchModel" 2 (some .boolean) 1 56 [] [vI s0, vR 0] (shM m) K' := by
  obtain ⟨hb, H⟩ := H
  refine EV_put (j := 22) d_M_goOn_56 shM_0 rfl fI11 fO11 fN11 (by decide) k_990 rfl rfl (fun ad => nf_bool ad hb) (Nat.le_of_ble_eq_true rfl) shM_0_22 ?_
  refine EV_iconst d_M_goOn_59 ⟨by decide, by decide⟩ ?_
  exact EV_iret d_M_goOn_60 rfl (nw_bool (by decide)) (hK _ _ H)
theorem ct_M_goOn {l : Launch} {m : Ob} {K : Int → Ob → Prop} {K' : Option AV → List AC → Prop} (H : wp_M_goOn m K) (hK : ∀ (r : Int) (m' : Ob), K r m' → K' (some (vI r)) (shM m')) : MT l ⟨"PrunedSearchModel", "goOn", "()Z"⟩ prog_13_method_15_code 2 (some .boolean) 1 [vR 0] (shM m) K' := by
  unfold wp_M_goOn at H
  refine MT_of (lv := [(0, vR 0)]) rfl rfl (Nat.le_of_ble_eq_true rfl) rfl ?_
  refine EV_aload_n 0 d_M_goOn_0 rfl rfl ?_
  refine EV_get (j := 18) d_M_goOn_1 shM_0 rfl fI11 (by decide) k_986 rfl ?_
  refine EV_iconst d_M_goOn_4 ⟨by decide, by decide⟩ ?_
  obtain ⟨hr, H⟩ := H
  refine EV_isub d_M_goOn_5 hr ?_
  refine EV_istore_n (lv' := [(0, vR 0), (1, vI ((m.1 8) - 1))]) [1, 0] d_M_goOn_6 rfl (by decide) rfl ?_
  refine EV_aload_n 0 d_M_goOn_7 rfl rfl ?_
  refine EV_get (j := 2) d_M_goOn_8 shM_0 rfl fI11 (by decide) k_970 rfl ?_
  refine EV_bipush d_M_goOn_11 (by decide +kernel) ⟨by decide, by decide⟩ ?_
  refine EV_icmp_ne (tgt := 61) d_M_goOn_13 (by decide) (fun hc => ?_) (fun hc => ?_)
  · have H := H.1 hc
    exact ct_M_goOn_61 H hK
  · have H := H.2 hc
    refine EV_aload_n 0 d_M_goOn_16 rfl rfl ?_
    refine EV_get (j := 19) d_M_goOn_17 shM_0 rfl fI11 (by decide) k_987 rfl ?_
    refine EV_iload_n 1 d_M_goOn_20 rfl rfl ?_
    obtain ⟨hi, H⟩ := H
    refine EV_iald d_M_goOn_21 shM_10 hi ?_
    refine EV_iconst d_M_goOn_22 ⟨by decide, by decide⟩ ?_
    refine EV_icmp_ge (tgt := 61) d_M_goOn_23 (by decide) (fun hc => ?_) (fun hc => ?_)
    · have H := H.1 hc
      exact ct_M_goOn_61 H hK
    · have H := H.2 hc
      refine EV_aload_n 0 d_M_goOn_26 rfl rfl ?_
      refine EV_get (j := 21) d_M_goOn_27 shM_0 rfl fI11 (by decide) k_989 rfl ?_
      refine EV_iload_n 1 d_M_goOn_30 rfl rfl ?_
      refine EV_aload_n 0 d_M_goOn_31 rfl rfl ?_
      refine EV_get (j := 21) d_M_goOn_32 shM_0 rfl fI11 (by decide) k_989 rfl ?_
      refine EV_iload_n 1 d_M_goOn_35 rfl rfl ?_
      obtain ⟨hi, H⟩ := H
      refine EV_iald d_M_goOn_36 shM_12 hi ?_
      refine EV_iconst d_M_goOn_37 ⟨by decide, by decide⟩ ?_
      obtain ⟨hr, H⟩ := H
      refine EV_iadd d_M_goOn_38 hr ?_
      obtain ⟨hi, H⟩ := H
      refine EV_iast d_M_goOn_39 shM_12 hi shM_12_s ?_
      refine EV_aload_n 0 d_M_goOn_40 rfl rfl ?_
      refine EV_aload_n 0 d_M_goOn_41 rfl rfl ?_
      refine EV_get (j := 19) d_M_goOn_42 shM_0 rfl fI11 (by decide) k_987 rfl ?_
      refine EV_iload_n 1 d_M_goOn_45 rfl rfl ?_
      obtain ⟨hi, H⟩ := H
      refine EV_iald d_M_goOn_46 shM_10 hi ?_
      refine EV_iconst d_M_goOn_47 ⟨by decide, by decide⟩ ?_
      refine EV_icmp_ne (tgt := 55) d_M_goOn_48 (by decide) (fun hc => ?_) (fun hc => ?_)
      · have H := H.1 hc
        refine EV_iconst d_M_goOn_55 ⟨by decide, by decide⟩ ?_
        refine EV_lv (lv' := []) [] rfl ?_
        exact ct_M_goOn_56 H hK
      · have H := H.2 hc
        refine EV_iconst d_M_goOn_51 ⟨by decide, by decide⟩ ?_
        refine EV_goto (tgt := 56) d_M_goOn_52 (by decide) ?_
        refine EV_lv (lv' := []) [] rfl ?_
        exact ct_M_goOn_56 H hK
theorem ct_M_read_344 {l : Launch} {K : Int → Ob → Prop} {K' : Option AV → List AC → Prop} {m : Ob} (H : M_read_344 m K) (hK : ∀ (r : Int) (m' : Ob), K r m' → K' (some (vI r)) (shM m')) : EV l prog_13_method_17_code "PrunedSearchModel" 6 (some .int) 3 344 [(0, vR 0)] [] (shM m) K' := by
  refine EV_aload_n 0 d_M_read_344 rfl rfl ?_
  refine EV_get (j := 1) d_M_read_345 shM_0 rfl fI11 (by decide) k_969 rfl ?_
  exact EV_iret d_M_read_348 rfl (nw_int _) (hK _ _ H)
theorem ct_M_read_338 {l : Launch} {K : Int → Ob → Prop} {K' : Option AV → List AC → Prop} {L52 : Int → Int → Int → Int → Int → Ob → Prop} {x1 : Int} {x2 : Int} {x3 : Int} {x4 : Int} {x5 : Int} {m : Ob} (hL52 : ∀ (x1 : Int) (x2 : Int) (x3 : Int) (x4 : Int) (x5 : Int) (m : Ob), L52 x1 x2 x3 x4 x5 m → EV l prog_13_method_17_code "PrunedSearchModel" 6 (some .int) 3 52 [(0, vR 0), (1, vI x1), (2, vI x2), (3, vI x3), (4, vI x4), (5, vI x5)] [] (shM m) K') (H : M_read_338 L52 x1 x2 x3 x4 x5 m K) (hK : ∀ (r : Int) (m' : Ob), K r m' → K' (some (vI r)) (shM m')) : EV l prog_13_method_17_code "PrunedSearchModel" 6 (some .int) 3 338 [(0, vR 0), (1, vI x1), (2, vI x2), (3, vI x3), (4, vI x4), (5, vI x5)] [] (shM m) K' := by
  obtain ⟨hr, H⟩ := H
  refine EV_iinc (lv' := [(0, vR 0), (1, vI x1), (2, vI x2), (3, vI x3), (4, vI x4), (5, vI (x5 + 1))]) 5 [1, 2, 3, 4, 5, 0] d_M_read_338 rfl (by decide) hr rfl ?_
  refine EV_goto (tgt := 52) d_M_read_341 (by decide) ?_
  exact hL52 x1 x2 x3 x4 (x5 + 1) m H
theorem ct_M_read_336 {l : Launch} {K : Int → Ob → Prop} {K' : Option AV → List AC → Prop} {L52 : Int → Int → Int → Int → Int → Ob → Prop} {x1 : Int} {x2 : Int} {x3 : Int} {x5 : Int} {s0 : Int} {m : Ob} (hL52 : ∀ (x1 : Int) (x2 : Int) (x3 : Int) (x4 : Int) (x5 : Int) (m : Ob), L52 x1 x2 x3 x4 x5 m → EV l prog_13_method_17_code "PrunedSearchModel" 6 (some .int) 3 52 [(0, vR 0), (1, vI x1), (2, vI x2), (3, vI x3), (4, vI x4), (5, vI x5)] [] (shM m) K') (H : M_read_336 L52 x1 x2 x3 x5 s0 m K) (hK : ∀ (r : Int) (m' : Ob), K r m' → K' (some (vI r)) (shM m')) : EV l prog_13_method_17_code "PrunedSearchModel" 6 (some .int) 3 336 [(0, vR 0), (1, vI x1), (2, vI x2), (3, vI x3), (5, vI x5)] [vI s0] (shM m) K' := by
  refine EV_istore (lv' := [(0, vR 0), (1, vI x1), (2, vI x2), (3, vI x3), (4, vI s0), (5, vI x5)]) [1, 2, 3, 4, 0, 5] d_M_read_336 (by decide) rfl ?_
  exact ct_M_read_338 hL52 H hK
theorem ct_M_read_331 {l : Launch} {K : Int → Ob → Prop} {K' : Option AV → List AC → Prop} {L52 : Int → Int → Int → Int → Int → Ob → Prop} {x1 : Int} {x2 : Int} {x3 : Int} {x5 : Int} {m : Ob} (hL52 : ∀ (x1 : Int) (x2 : Int) (x3 : Int) (x4 : Int) (x5 : Int) (m : Ob), L52 x1 x2 x3 x4 x5 m → EV l prog_13_method_17_code "PrunedSearchModel" 6 (some .int) 3 52 [(0, vR 0), (1, vI x1), (2, vI x2), (3, vI x3), (4, vI x4), (5, vI x5)] [] (shM m) K') (H : M_read_331 L52 x1 x2 x3 x5 m K) (hK : ∀ (r : Int) (m' : Ob), K r m' → K' (some (vI r)) (shM m')) : EV l prog_13_method_17_code "PrunedSearchModel" 6 (some .int) 3 331 [(0, vR 0), (1, vI x1), (2, vI x2), (3, vI x3), (5, vI x5)] [] (shM m) K' := by
  refine EV_iconst d_M_read_331 ⟨by decide, by decide⟩ ?_
  refine EV_goto (tgt := 336) d_M_read_332 (by decide) ?_
  exact ct_M_read_336 hL52 H hK
theorem ct_M_read_306 {l : Launch} {K : Int → Ob → Prop} {K' : Option AV → List AC → Prop} {m : Ob} (H : M_read_306 m K) (hK : ∀ (r : Int) (m' : Ob), K r m' → K' (some (vI r)) (shM m')) : EV l prog_13_method_17_code "PrunedSearchModel" 6 (some .int) 3 306 [(0, vR 0)] [] (shM m) K' := by
  refine EV_aload_n 0 d_M_read_306 rfl rfl ?_
  refine EV_get (j := 3) d_M_read_307 shM_0 rfl fI11 (by decide) k_971 rfl ?_
  exact EV_iret d_M_read_310 rfl (nw_int _) (hK _ _ H)
theorem ct_M_read_294 {l : Launch} {K : Int → Ob → Prop} {K' : Option AV → List AC → Prop} {L52 : Int → Int → Int → Int → Int → Ob → Prop} {x1 : Int} {x2 : Int} {x3 : Int} {x5 : Int} {s0 : Int} {m : Ob} (hL52 : ∀ (x1 : Int) (x2 : Int) (x3 : Int) (x4 : Int) (x5 : Int) (m : Ob), L52 x1 x2 x3 x4 x5 m → EV l prog_13_method_17_code "PrunedSearchModel" 6 (some .int) 3 52 [(0, vR 0), (1, vI x1), (2, vI x2), (3, vI x3), (4, vI x4), (5, vI x5)] [] (shM m) K') (H : M_read_294 L52 x1 x2 x3 x5 s0 m K) (hK : ∀ (r : Int) (m' : Ob), K r m' → K' (some (vI r)) (shM m')) : EV l prog_13_method_17_code "PrunedSearchModel" 6 (some .int) 3 294 [(0, vR 0), (1, vI x1), (2, vI x2), (3, vI x3), (5, vI x5)] [vI s0] (shM m) K' := by
  refine EV_istore (lv' := [(0, vR 0), (1, vI x1), (2, vI x2), (3, vI x3), (4, vI s0), (5, vI x5)]) [1, 2, 3, 4, 0, 5] d_M_read_294 (by decide) rfl ?_
  refine EV_goto (tgt := 338) d_M_read_296 (by decide) ?_
  exact ct_M_read_338 hL52 H hK
theorem ct_M_read_279 {l : Launch} {K : Int → Ob → Prop} {K' : Option AV → List AC → Prop} {L52 : Int → Int → Int → Int → Int → Ob → Prop} {x1 : Int} {x2 : Int} {x5 : Int} {s0 : Int} {m : Ob} (hL52 : ∀ (x1 : Int) (x2 : Int) (x3 : Int) (x4 : Int) (x5 : Int) (m : Ob), L52 x1 x2 x3 x4 x5 m → EV l prog_13_method_17_code "PrunedSearchModel" 6 (some .int) 3 52 [(0, vR 0), (1, vI x1), (2, vI x2), (3, vI x3), (4, vI x4), (5, vI x5)] [] (shM m) K') (H : M_read_279 L52 x1 x2 x5 s0 m K) (hK : ∀ (r : Int) (m' : Ob), K r m' → K' (some (vI r)) (shM m')) : EV l prog_13_method_17_code "PrunedSearchModel" 6 (some .int) 3 279 [(0, vR 0), (1, vI x1), (2, vI x2), (5, vI x5)] [vI s0] (shM m) K' := by
  refine EV_istore_n (lv' := [(0, vR 0), (1, vI x1), (2, vI x2), (3, vI s0), (5, vI x5)]) [1, 2, 3, 0, 4] d_M_read_279 rfl (by decide) rfl ?_
  refine EV_aload_n 0 d_M_read_280 rfl rfl ?_
  refine EV_get (j := 2) d_M_read_281 shM_0 rfl fI11 (by decide) k_970 rfl ?_
  refine EV_bipush d_M_read_284 (by decide +kernel) ⟨by decide, by decide⟩ ?_
  refine EV_icmp_ne (tgt := 293) d_M_read_286 (by decide) (fun hc => ?_) (fun hc => ?_)
  · have H := H.1 hc
    refine EV_iconst d_M_read_293 ⟨by decide, by decide⟩ ?_
    exact ct_M_read_294 hL52 H hK
  · have H := H.2 hc
    refine EV_iconst d_M_read_289 ⟨by decide, by decide⟩ ?_
    refine EV_goto (tgt := 294) d_M_read_290 (by decide) ?_
    exact ct_M_read_294 hL52 H hK
theorem ct_M_read_261 {l : Launch} {K : Int → Ob → Prop} {K' : Option AV → List AC → Prop} {m : Ob} (H : M_read_261 m K) (hK : ∀ (r : Int) (m' : Ob), K r m' → K' (some (vI r)) (shM m')) : EV l prog_13_method_17_code "PrunedSearchModel" 6 (some .int) 3 261 [(0, vR 0)] [] (shM m) K' := by
  refine EV_aload_n 0 d_M_read_261 rfl rfl ?_
  refine EV_get (j := 3) d_M_read_262 shM_0 rfl fI11 (by decide) k_971 rfl ?_
  exact EV_iret d_M_read_265 rfl (nw_int _) (hK _ _ H)
theorem ct_M_read_249 {l : Launch} {K : Int → Ob → Prop} {K' : Option AV → List AC → Prop} {L52 : Int → Int → Int → Int → Int → Ob → Prop} {x1 : Int} {x2 : Int} {x4 : Int} {x5 : Int} {m : Ob} (hL52 : ∀ (x1 : Int) (x2 : Int) (x3 : Int) (x4 : Int) (x5 : Int) (m : Ob), L52 x1 x2 x3 x4 x5 m → EV l prog_13_method_17_code "PrunedSearchModel" 6 (some .int) 3 52 [(0, vR 0), (1, vI x1), (2, vI x2), (3, vI x3), (4, vI x4), (5, vI x5)] [] (shM m) K') (H : M_read_249 L52 x1 x2 x4 x5 m K) (hK : ∀ (r : Int) (m' : Ob), K r m' → K' (some (vI r)) (shM m')) : EV l prog_13_method_17_code "PrunedSearchModel" 6 (some .int) 3 249 [(0, vR 0), (1, vI x1), (2, vI x2), (4, vI x4), (5, vI x5)] [] (shM m) K' := by
  refine EV_iload 3 d_M_read_249 rfl ?_
  refine EV_if_eq (tgt := 299) d_M_read_251 (by decide) (fun hc => ?_) (fun hc => ?_)
  · have H := H.1 hc
    refine EV_aload_n 0 d_M_read_299 rfl rfl ?_
    refine EV_callV (as := []) (st := []) d_M_read_300 k_1198 k_1200 kp_53 k_12 k_1201 shM_0 rfl pd_10 ⟨by decide, by decide, Nat.le_of_ble_eq_true rfl⟩ rfl (ct_M_goOn H (fun r_4 m_3 H => ?_))
    refine EV_if_ne (tgt := 311) d_M_read_303 (by decide) (fun hc => ?_) (fun hc => ?_)
    · have H := H.1 hc
      refine EV_iconst d_M_read_311 ⟨by decide, by decide⟩ ?_
      refine EV_istore_n (lv' := [(0, vR 0), (1, vI x1), (2, vI x2), (3, vI 0), (4, vI x4), (5, vI x5)]) [1, 2, 3, 0, 4, 5] d_M_read_312 rfl (by decide) rfl ?_
      refine EV_aload_n 0 d_M_read_313 rfl rfl ?_
      refine EV_get (j := 2) d_M_read_314 shM_0 rfl fI11 (by decide) k_970 rfl ?_
      refine EV_bipush d_M_read_317 (by decide +kernel) ⟨by decide, by decide⟩ ?_
      refine EV_icmp_eq (tgt := 331) d_M_read_319 (by decide) (fun hc => ?_) (fun hc => ?_)
      · have H := H.1 hc
        refine EV_lv (lv' := [(0, vR 0), (1, vI x1), (2, vI x2), (3, vI 0), (5, vI x5)]) [0, 1, 2, 3, 5] rfl ?_
        exact ct_M_read_331 hL52 H hK
      · have H := H.2 hc
        refine EV_aload_n 0 d_M_read_322 rfl rfl ?_
        refine EV_get (j := 2) d_M_read_323 shM_0 rfl fI11 (by decide) k_970 rfl ?_
        refine EV_bipush d_M_read_326 (by decide +kernel) ⟨by decide, by decide⟩ ?_
        refine EV_icmp_ne (tgt := 335) d_M_read_328 (by decide) (fun hc => ?_) (fun hc => ?_)
        · have H := H.1 hc
          refine EV_iconst d_M_read_335 ⟨by decide, by decide⟩ ?_
          refine EV_lv (lv' := [(0, vR 0), (1, vI x1), (2, vI x2), (3, vI 0), (5, vI x5)]) [0, 1, 2, 3, 5] rfl ?_
          exact ct_M_read_336 hL52 H hK
        · have H := H.2 hc
          refine EV_lv (lv' := [(0, vR 0), (1, vI x1), (2, vI x2), (3, vI 0), (5, vI x5)]) [0, 1, 2, 3, 5] rfl ?_
          exact ct_M_read_331 hL52 H hK
    · have H := H.2 hc
      refine EV_lv (lv' := [(0, vR 0)]) [0] rfl ?_
      exact ct_M_read_306 H hK
  · have H := H.2 hc
    refine EV_aload_n 0 d_M_read_254 rfl rfl ?_
    refine EV_callV (as := []) (st := []) d_M_read_255 k_1189 k_1191 kp_51 k_12 k_1192 shM_0 rfl pd_11 ⟨by decide, by decide, Nat.le_of_ble_eq_true rfl⟩ rfl (ct_M_beginTerm H (fun r_6 m_5 H => ?_))
    refine EV_if_ne (tgt := 266) d_M_read_258 (by decide) (fun hc => ?_) (fun hc => ?_)
    · have H := H.1 hc
      refine EV_aload_n 0 d_M_read_266 rfl rfl ?_
      refine EV_get (j := 2) d_M_read_267 shM_0 rfl fI11 (by decide) k_970 rfl ?_
      refine EV_iconst d_M_read_270 ⟨by decide, by decide⟩ ?_
      refine EV_icmp_ne (tgt := 278) d_M_read_271 (by decide) (fun hc => ?_) (fun hc => ?_)
      · have H := H.1 hc
        refine EV_iconst d_M_read_278 ⟨by decide, by decide⟩ ?_
        refine EV_lv (lv' := [(0, vR 0), (1, vI x1), (2, vI x2), (5, vI x5)]) [0, 1, 2, 4] rfl ?_
        exact ct_M_read_279 hL52 H hK
      · have H := H.2 hc
        refine EV_iconst d_M_read_274 ⟨by decide, by decide⟩ ?_
        refine EV_goto (tgt := 279) d_M_read_275 (by decide) ?_
        refine EV_lv (lv' := [(0, vR 0), (1, vI x1), (2, vI x2), (5, vI x5)]) [0, 1, 2, 4] rfl ?_
        exact ct_M_read_279 hL52 H hK
    · have H := H.2 hc
      refine EV_lv (lv' := [(0, vR 0)]) [0] rfl ?_
      exact ct_M_read_261 H hK
theorem ct_M_read_162 {l : Launch} {K : Int → Ob → Prop} {K' : Option AV → List AC → Prop} {m : Ob} (H : M_read_162 m K) (hK : ∀ (r : Int) (m' : Ob), K r m' → K' (some (vI r)) (shM m')) : EV l prog_13_method_17_code "PrunedSearchModel" 6 (some .int) 3 162 [(0, vR 0)] [] (shM m) K' := by
  refine EV_aload_n 0 d_M_read_162 rfl rfl ?_
  refine EV_get (j := 3) d_M_read_163 shM_0 rfl fI11 (by decide) k_971 rfl ?_
  exact EV_iret d_M_read_166 rfl (nw_int _) (hK _ _ H)
theorem ct_M_read_157 {l : Launch} {K : Int → Ob → Prop} {K' : Option AV → List AC → Prop} {L52 : Int → Int → Int → Int → Int → Ob → Prop} {x1 : Int} {x2 : Int} {x4 : Int} {x5 : Int} {s0 : Int} {m : Ob} (hL52 : ∀ (x1 : Int) (x2 : Int) (x3 : Int) (x4 : Int) (x5 : Int) (m : Ob), L52 x1 x2 x3 x4 x5 m → EV l prog_13_method_17_code "PrunedSearchModel" 6 (some .int) 3 52 [(0, vR 0), (1, vI x1), (2, vI x2), (3, vI x3), (4, vI x4), (5, vI x5)] [] (shM m) K') (H : M_read_157 L52 x1 x2 x4 x5 s0 m K) (hK : ∀ (r : Int) (m' : Ob), K r m' → K' (some (vI r)) (shM m')) : EV l prog_13_method_17_code "PrunedSearchModel" 6 (some .int) 3 157 [(0, vR 0), (1, vI x1), (2, vI x2), (4, vI x4), (5, vI x5)] [vI s0] (shM m) K' := by
  refine EV_istore_n (lv' := [(0, vR 0), (1, vI x1), (2, vI x2), (3, vI s0), (4, vI x4), (5, vI x5)]) [1, 2, 3, 0, 4, 5] d_M_read_157 rfl (by decide) rfl ?_
  refine EV_iload_n 2 d_M_read_158 rfl rfl ?_
  refine EV_if_ge (tgt := 338) d_M_read_159 (by decide) (fun hc => ?_) (fun hc => ?_)
  · have H := H.1 hc
    exact ct_M_read_338 hL52 H hK
  · have H := H.2 hc
    refine EV_lv (lv' := [(0, vR 0)]) [0] rfl ?_
    exact ct_M_read_162 H hK
theorem ct_M_read_130 {l : Launch} {K : Int → Ob → Prop} {K' : Option AV → List AC → Prop} {L52 : Int → Int → Int → Int → Int → Ob → Prop} {x1 : Int} {x2 : Int} {x4 : Int} {x5 : Int} {m : Ob} (hL52 : ∀ (x1 : Int) (x2 : Int) (x3 : Int) (x4 : Int) (x5 : Int) (m : Ob), L52 x1 x2 x3 x4 x5 m → EV l prog_13_method_17_code "PrunedSearchModel" 6 (some .int) 3 52 [(0, vR 0), (1, vI x1), (2, vI x2), (3, vI x3), (4, vI x4), (5, vI x5)] [] (shM m) K') (H : M_read_130 L52 x1 x2 x4 x5 m K) (hK : ∀ (r : Int) (m' : Ob), K r m' → K' (some (vI r)) (shM m')) : EV l prog_13_method_17_code "PrunedSearchModel" 6 (some .int) 3 130 [(0, vR 0), (1, vI x1), (2, vI x2), (4, vI x4), (5, vI x5)] [] (shM m) K' := by
  refine EV_aload_n 0 d_M_read_130 rfl rfl ?_
  refine EV_get (j := 18) d_M_read_131 shM_0 rfl fI11 (by decide) k_986 rfl ?_
  refine EV_if_ne (tgt := 167) d_M_read_134 (by decide) (fun hc => ?_) (fun hc => ?_)
  · have H := H.1 hc
    refine EV_iload 3 d_M_read_167 rfl ?_
    refine EV_if_eq (tgt := 249) d_M_read_169 (by decide) (fun hc => ?_) (fun hc => ?_)
    · have H := H.1 hc
      exact ct_M_read_249 hL52 H hK
    · have H := H.2 hc
      refine EV_aload_n 0 d_M_read_172 rfl rfl ?_
      refine EV_get (j := 2) d_M_read_173 shM_0 rfl fI11 (by decide) k_970 rfl ?_
      refine EV_bipush d_M_read_176 (by decide +kernel) ⟨by decide, by decide⟩ ?_
      refine EV_icmp_ne (tgt := 249) d_M_read_178 (by decide) (fun hc => ?_) (fun hc => ?_)
      · have H := H.1 hc
        exact ct_M_read_249 hL52 H hK
      · have H := H.2 hc
        refine EV_aload_n 0 d_M_read_181 rfl rfl ?_
        refine EV_get (j := 22) d_M_read_182 shM_0 rfl fI11 (by decide) k_990 rfl ?_
        refine EV_if_eq (tgt := 249) d_M_read_185 (by decide) (fun hc => ?_) (fun hc => ?_)
        · have H := H.1 hc
          exact ct_M_read_249 hL52 H hK
        · have H := H.2 hc
          refine EV_aload_n 0 d_M_read_188 rfl rfl ?_
          refine EV_get (j := 19) d_M_read_189 shM_0 rfl fI11 (by decide) k_987 rfl ?_
          refine EV_aload_n 0 d_M_read_192 rfl rfl ?_
          refine EV_get (j := 18) d_M_read_193 shM_0 rfl fI11 (by decide) k_986 rfl ?_
          refine EV_iconst d_M_read_196 ⟨by decide, by decide⟩ ?_
          obtain ⟨hr, H⟩ := H
          refine EV_isub d_M_read_197 hr ?_
          obtain ⟨hi, H⟩ := H
          refine EV_iald d_M_read_198 shM_10 hi ?_
          refine EV_iconst d_M_read_199 ⟨by decide, by decide⟩ ?_
          refine EV_icmp_ne (tgt := 249) d_M_read_200 (by decide) (fun hc => ?_) (fun hc => ?_)
          · have H := H.1 hc
            exact ct_M_read_249 hL52 H hK
          · have H := H.2 hc
            refine EV_aload_n 0 d_M_read_203 rfl rfl ?_
            refine EV_get (j := 21) d_M_read_204 shM_0 rfl fI11 (by decide) k_989 rfl ?_
            refine EV_aload_n 0 d_M_read_207 rfl rfl ?_
            refine EV_get (j := 18) d_M_read_208 shM_0 rfl fI11 (by decide) k_986 rfl ?_
            refine EV_iconst d_M_read_211 ⟨by decide, by decide⟩ ?_
            obtain ⟨hr, H⟩ := H
            refine EV_isub d_M_read_212 hr ?_
            obtain ⟨hi, H⟩ := H
            refine EV_iald d_M_read_213 shM_12 hi ?_
            refine EV_iconst d_M_read_214 ⟨by decide, by decide⟩ ?_
            refine EV_icmp_ne (tgt := 249) d_M_read_215 (by decide) (fun hc => ?_) (fun hc => ?_)
            · have H := H.1 hc
              exact ct_M_read_249 hL52 H hK
            · have H := H.2 hc
              refine EV_aload_n 0 d_M_read_218 rfl rfl ?_
              refine EV_ldc2 (n := 2) d_M_read_219 k_1188 (by decide +kernel) (by decide) ?_
              refine EV_iconst d_M_read_222 ⟨by decide, by decide⟩ ?_
              refine EV_callV (as := [vL 2, vI 0]) (st := []) d_M_read_223 k_1180 k_1182 kp_49 k_12 k_1183 shM_0 rfl pd_5 ⟨by decide, by decide, Nat.le_of_ble_eq_true rfl⟩ rfl (ct_M_emit H (fun m_7 H => ?_))
              refine EV_aload_n 0 d_M_read_226 rfl rfl ?_
              refine EV_aload_n 0 d_M_read_227 rfl rfl ?_
              refine EV_get (j := 18) d_M_read_228 shM_0 rfl fI11 (by decide) k_986 rfl ?_
              refine EV_iconst d_M_read_231 ⟨by decide, by decide⟩ ?_
              obtain ⟨hr, H⟩ := H
              refine EV_isub d_M_read_232 hr ?_
              refine EV_put (j := 18) d_M_read_233 shM_0 rfl fI11 fO11 fN11 (by decide) k_986 rfl rfl (fun ad => nf_int ad _) (Nat.le_of_ble_eq_true rfl) shM_0_18 ?_
              refine EV_aload_n 0 d_M_read_236 rfl rfl ?_
              refine EV_iconst d_M_read_237 ⟨by decide, by decide⟩ ?_
              refine EV_put (j := 22) d_M_read_238 shM_0 rfl fI11 fO11 fN11 (by decide) k_990 rfl rfl (fun ad => nf_bool ad (by decide)) (Nat.le_of_ble_eq_true rfl) shM_0_22 ?_
              refine EV_iconst d_M_read_241 ⟨by decide, by decide⟩ ?_
              refine EV_istore_n (lv' := [(0, vR 0), (1, vI x1), (2, vI x2), (3, vI 0), (4, vI x4), (5, vI x5)]) [1, 2, 3, 0, 4, 5] d_M_read_242 rfl (by decide) rfl ?_
              refine EV_iconst d_M_read_243 ⟨by decide, by decide⟩ ?_
              refine EV_istore (lv' := [(0, vR 0), (1, vI x1), (2, vI x2), (3, vI 0), (4, vI 0), (5, vI x5)]) [1, 2, 3, 4, 0, 5] d_M_read_244 (by decide) rfl ?_
              refine EV_goto (tgt := 338) d_M_read_246 (by decide) ?_
              exact ct_M_read_338 hL52 H hK
  · have H := H.2 hc
    refine EV_aload_n 0 d_M_read_137 rfl rfl ?_
    refine EV_iload_n 2 d_M_read_138 rfl rfl ?_
    refine EV_iload_n 1 d_M_read_139 rfl rfl ?_
    refine EV_callV (as := [vI x2, vI x1]) (st := []) d_M_read_140 k_1172 k_1174 kp_47 k_12 k_1175 shM_0 rfl pd_12 ⟨by decide, by decide, Nat.le_of_ble_eq_true rfl⟩ rfl (ct_M_outside H (fun r_9 m_8 H => ?_))
    refine EV_istore_n (lv' := [(0, vR 0), (1, vI x1), (2, vI r_9), (4, vI x4), (5, vI x5)]) [1, 2, 0, 3, 4] d_M_read_143 rfl (by decide) rfl ?_
    refine EV_aload_n 0 d_M_read_144 rfl rfl ?_
    refine EV_get (j := 2) d_M_read_145 shM_0 rfl fI11 (by decide) k_970 rfl ?_
    refine EV_iconst d_M_read_148 ⟨by decide, by decide⟩ ?_
    refine EV_icmp_ne (tgt := 156) d_M_read_149 (by decide) (fun hc => ?_) (fun hc => ?_)
    · have H := H.1 hc
      refine EV_iconst d_M_read_156 ⟨by decide, by decide⟩ ?_
      exact ct_M_read_157 hL52 H hK
    · have H := H.2 hc
      refine EV_iconst d_M_read_152 ⟨by decide, by decide⟩ ?_
      refine EV_goto (tgt := 157) d_M_read_153 (by decide) ?_
      exact ct_M_read_157 hL52 H hK
theorem ct_M_read_117 {l : Launch} {K : Int → Ob → Prop} {K' : Option AV → List AC → Prop} {m : Ob} (H : M_read_117 m K) (hK : ∀ (r : Int) (m' : Ob), K r m' → K' (some (vI r)) (shM m')) : EV l prog_13_method_17_code "PrunedSearchModel" 6 (some .int) 3 117 [(0, vR 0)] [] (shM m) K' := by
  refine EV_aload_n 0 d_M_read_117 rfl rfl ?_
  refine EV_get (j := 3) d_M_read_118 shM_0 rfl fI11 (by decide) k_971 rfl ?_
  exact EV_iret d_M_read_121 rfl (nw_int _) (hK _ _ H)
theorem ct_M_read_91 {l : Launch} {K : Int → Ob → Prop} {K' : Option AV → List AC → Prop} {m : Ob} (H : M_read_91 m K) (hK : ∀ (r : Int) (m' : Ob), K r m' → K' (some (vI r)) (shM m')) : EV l prog_13_method_17_code "PrunedSearchModel" 6 (some .int) 3 91 [(0, vR 0)] [] (shM m) K' := by
  refine EV_aload_n 0 d_M_read_91 rfl rfl ?_
  refine EV_get (j := 1) d_M_read_92 shM_0 rfl fI11 (by decide) k_969 rfl ?_
  exact EV_iret d_M_read_95 rfl (nw_int _) (hK _ _ H)
theorem ct_M_read_71 {l : Launch} {K : Int → Ob → Prop} {K' : Option AV → List AC → Prop} {x2 : Int} {m : Ob} (H : M_read_71 x2 m K) (hK : ∀ (r : Int) (m' : Ob), K r m' → K' (some (vI r)) (shM m')) : EV l prog_13_method_17_code "PrunedSearchModel" 6 (some .int) 3 71 [(0, vR 0), (2, vI x2)] [] (shM m) K' := by
  refine EV_aload_n 0 d_M_read_71 rfl rfl ?_
  refine EV_get (j := 18) d_M_read_72 shM_0 rfl fI11 (by decide) k_986 rfl ?_
  refine EV_if_ne (tgt := 91) d_M_read_75 (by decide) (fun hc => ?_) (fun hc => ?_)
  · have H := H.1 hc
    refine EV_lv (lv' := [(0, vR 0)]) [0] rfl ?_
    exact ct_M_read_91 H hK
  · have H := H.2 hc
    refine EV_iload_n 1 d_M_read_78 rfl rfl ?_
    refine EV_if_eq (tgt := 87) d_M_read_79 (by decide) (fun hc => ?_) (fun hc => ?_)
    · have H := H.1 hc
      refine EV_iconst d_M_read_87 ⟨by decide, by decide⟩ ?_
      refine EV_goto (tgt := 95) d_M_read_88 (by decide) ?_
      exact EV_iret d_M_read_95 rfl (nw_int _) (hK _ _ H)
    · have H := H.2 hc
      refine EV_iload_n 1 d_M_read_82 rfl rfl ?_
      refine EV_iconst d_M_read_83 ⟨by decide, by decide⟩ ?_
      refine EV_icmp_ne (tgt := 91) d_M_read_84 (by decide) (fun hc => ?_) (fun hc => ?_)
      · have H := H.1 hc
        refine EV_lv (lv' := [(0, vR 0)]) [0] rfl ?_
        exact ct_M_read_91 H hK
      · have H := H.2 hc
        refine EV_iconst d_M_read_87 ⟨by decide, by decide⟩ ?_
        refine EV_goto (tgt := 95) d_M_read_88 (by decide) ?_
        exact EV_iret d_M_read_95 rfl (nw_int _) (hK _ _ H)
theorem ct_M_read_52 {l : Launch} {K : Int → Ob → Prop} {K' : Option AV → List AC → Prop} (hK : ∀ (r : Int) (m' : Ob), K r m' → K' (some (vI r)) (shM m')) : ∀ (n : Nat) (x1 : Int) (x2 : Int) (x3 : Int) (x4 : Int) (x5 : Int) (m : Ob), M_read_52 n x1 x2 x3 x4 x5 m K → EV l prog_13_method_17_code "PrunedSearchModel" 6 (some .int) 3 52 [(0, vR 0), (1, vI x1), (2, vI x2), (3, vI x3), (4, vI x4), (5, vI x5)] [] (shM m) K' := by
  intro n
  induction n with
  | zero =>
    intro x1 x2 x3 x4 x5 m H
    exact H.elim
  | succ n ih =>
    intro x1 x2 x3 x4 x5 m H
    refine EV_iload 5 d_M_read_52 rfl ?_
    refine EV_sipush d_M_read_54 (by decide +kernel) ⟨by decide, by decide⟩ ?_
    refine EV_icmp_ge (tgt := 344) d_M_read_57 (by decide) (fun hc => ?_) (fun hc => ?_)
    · have H := H.1 hc
      refine EV_lv (lv' := [(0, vR 0)]) [0] rfl ?_
      exact ct_M_read_344 H hK
    · have H := H.2 hc
      refine EV_aload_n 0 d_M_read_60 rfl rfl ?_
      refine EV_callV (as := []) (st := []) d_M_read_61 k_1160 k_1162 kp_44 k_12 k_1163 shM_0 rfl pd_13 ⟨by decide, by decide, Nat.le_of_ble_eq_true rfl⟩ rfl (ct_M_take H (fun m_2 H => ?_))
      refine EV_aload_n 0 d_M_read_64 rfl rfl ?_
      refine EV_get (j := 2) d_M_read_65 shM_0 rfl fI11 (by decide) k_970 rfl ?_
      refine EV_if_ne (tgt := 96) d_M_read_68 (by decide) (fun hc => ?_) (fun hc => ?_)
      · have H := H.1 hc
        refine EV_iload_n 3 d_M_read_96 rfl rfl ?_
        refine EV_if_eq (tgt := 130) d_M_read_97 (by decide) (fun hc => ?_) (fun hc => ?_)
        · have H := H.1 hc
          refine EV_lv (lv' := [(0, vR 0), (1, vI x1), (2, vI x2), (4, vI x4), (5, vI x5)]) [0, 1, 2, 4, 5] rfl ?_
          exact ct_M_read_130 (fun x1 x2 x3 x4 x5 m' H => ih x1 x2 x3 x4 x5 m' H) H hK
        · have H := H.2 hc
          refine EV_aload_n 0 d_M_read_100 rfl rfl ?_
          refine EV_get (j := 2) d_M_read_101 shM_0 rfl fI11 (by decide) k_970 rfl ?_
          refine EV_bipush d_M_read_104 (by decide +kernel) ⟨by decide, by decide⟩ ?_
          refine EV_icmp_ne (tgt := 130) d_M_read_106 (by decide) (fun hc => ?_) (fun hc => ?_)
          · have H := H.1 hc
            refine EV_lv (lv' := [(0, vR 0), (1, vI x1), (2, vI x2), (4, vI x4), (5, vI x5)]) [0, 1, 2, 4, 5] rfl ?_
            exact ct_M_read_130 (fun x1 x2 x3 x4 x5 m' H => ih x1 x2 x3 x4 x5 m' H) H hK
          · have H := H.2 hc
            refine EV_aload_n 0 d_M_read_109 rfl rfl ?_
            refine EV_iconst d_M_read_110 ⟨by decide, by decide⟩ ?_
            refine EV_callV (as := [vI 0]) (st := []) d_M_read_111 k_1168 k_1170 kp_46 k_12 k_1171 shM_0 rfl pd_8 ⟨by decide, by decide, Nat.le_of_ble_eq_true rfl⟩ rfl (ct_M_push H (fun r_11 m_10 H => ?_))
            refine EV_if_ne (tgt := 122) d_M_read_114 (by decide) (fun hc => ?_) (fun hc => ?_)
            · have H := H.1 hc
              refine EV_iconst d_M_read_122 ⟨by decide, by decide⟩ ?_
              refine EV_istore_n (lv' := [(0, vR 0), (1, vI x1), (2, vI x2), (3, vI 0), (4, vI x4), (5, vI x5)]) [1, 2, 3, 0, 4, 5] d_M_read_123 rfl (by decide) rfl ?_
              refine EV_iconst d_M_read_124 ⟨by decide, by decide⟩ ?_
              refine EV_istore (lv' := [(0, vR 0), (1, vI x1), (2, vI x2), (3, vI 0), (4, vI 1), (5, vI x5)]) [1, 2, 3, 4, 0, 5] d_M_read_125 (by decide) rfl ?_
              refine EV_goto (tgt := 338) d_M_read_127 (by decide) ?_
              exact ct_M_read_338 (fun x1 x2 x3 x4 x5 m' H => ih x1 x2 x3 x4 x5 m' H) H hK
            · have H := H.2 hc
              refine EV_lv (lv' := [(0, vR 0)]) [0] rfl ?_
              exact ct_M_read_117 H hK
      · have H := H.2 hc
        refine EV_lv (lv' := [(0, vR 0), (2, vI x2)]) [0, 2] rfl ?_
        exact ct_M_read_71 H hK
theorem ct_M_read_9 {l : Launch} {K : Int → Ob → Prop} {K' : Option AV → List AC → Prop} {x1 : Int} {s0 : Int} {m : Ob} (H : M_read_9 x1 s0 m K) (hK : ∀ (r : Int) (m' : Ob), K r m' → K' (some (vI r)) (shM m')) : EV l prog_13_method_17_code "PrunedSearchModel" 6 (some .int) 3 9 [(0, vR 0), (1, vI x1)] [vI s0] (shM m) K' := by
  refine EV_istore_n (lv' := [(0, vR 0), (1, vI x1), (2, vI s0)]) [1, 2, 0] d_M_read_9 rfl (by decide) rfl ?_
  refine EV_iconst d_M_read_10 ⟨by decide, by decide⟩ ?_
  refine EV_istore_n (lv' := [(0, vR 0), (1, vI x1), (2, vI s0), (3, vI 0)]) [1, 2, 3, 0] d_M_read_11 rfl (by decide) rfl ?_
  refine EV_iconst d_M_read_12 ⟨by decide, by decide⟩ ?_
  refine EV_istore (lv' := [(0, vR 0), (1, vI x1), (2, vI s0), (3, vI 0), (4, vI 0)]) [1, 2, 3, 4, 0] d_M_read_13 (by decide) rfl ?_
  refine EV_aload_n 0 d_M_read_15 rfl rfl ?_
  refine EV_iconst d_M_read_16 ⟨by decide, by decide⟩ ?_
  refine EV_put (j := 4) d_M_read_17 shM_0 rfl fI11 fO11 fN11 (by decide) k_972 rfl rfl (fun ad => nf_int ad _) (Nat.le_of_ble_eq_true rfl) shM_0_4 ?_
  refine EV_aload_n 0 d_M_read_20 rfl rfl ?_
  refine EV_iconst d_M_read_21 ⟨by decide, by decide⟩ ?_
  refine EV_put (j := 8) d_M_read_22 shM_0 rfl fI11 fO11 fN11 (by decide) k_976 rfl rfl (fun ad => nf_int ad _) (Nat.le_of_ble_eq_true rfl) shM_0_8 ?_
  refine EV_aload_n 0 d_M_read_25 rfl rfl ?_
  refine EV_iconst d_M_read_26 ⟨by decide, by decide⟩ ?_
  refine EV_put (j := 9) d_M_read_27 shM_0 rfl fI11 fO11 fN11 (by decide) k_977 rfl rfl (fun ad => nf_int ad _) (Nat.le_of_ble_eq_true rfl) shM_0_9 ?_
  refine EV_aload_n 0 d_M_read_30 rfl rfl ?_
  refine EV_iconst d_M_read_31 ⟨by decide, by decide⟩ ?_
  refine EV_put (j := 13) d_M_read_32 shM_0 rfl fI11 fO11 fN11 (by decide) k_981 rfl rfl (fun ad => nf_int ad _) (Nat.le_of_ble_eq_true rfl) shM_0_13 ?_
  refine EV_aload_n 0 d_M_read_35 rfl rfl ?_
  refine EV_iconst d_M_read_36 ⟨by decide, by decide⟩ ?_
  refine EV_put (j := 18) d_M_read_37 shM_0 rfl fI11 fO11 fN11 (by decide) k_986 rfl rfl (fun ad => nf_int ad _) (Nat.le_of_ble_eq_true rfl) shM_0_18 ?_
  refine EV_aload_n 0 d_M_read_40 rfl rfl ?_
  refine EV_iconst d_M_read_41 ⟨by decide, by decide⟩ ?_
  refine EV_put (j := 22) d_M_read_42 shM_0 rfl fI11 fO11 fN11 (by decide) k_990 rfl rfl (fun ad => nf_bool ad (by decide)) (Nat.le_of_ble_eq_true rfl) shM_0_22 ?_
  refine EV_aload_n 0 d_M_read_45 rfl rfl ?_
  refine EV_callV (as := []) (st := []) d_M_read_46 k_1156 k_1158 kp_43 k_12 k_1159 shM_0 rfl pd_7 ⟨by decide, by decide, Nat.le_of_ble_eq_true rfl⟩ rfl (ct_M_beginPiece H (fun m_1 H => ?_))
  refine EV_iconst d_M_read_49 ⟨by decide, by decide⟩ ?_
  refine EV_istore (lv' := [(0, vR 0), (1, vI x1), (2, vI s0), (3, vI 0), (4, vI 0), (5, vI 0)]) [1, 2, 3, 4, 5, 0] d_M_read_50 (by decide) rfl ?_
  obtain ⟨n, H⟩ := H
  exact ct_M_read_52 hK n x1 s0 0 0 0 m_1 H
theorem ct_M_read {l : Launch} {m : Ob} {x1 : Int} {K : Int → Ob → Prop} {K' : Option AV → List AC → Prop} (H : wp_M_read x1 m K) (hK : ∀ (r : Int) (m' : Ob), K r m' → K' (some (vI r)) (shM m')) : MT l ⟨"PrunedSearchModel", "read", "(Z)I"⟩ prog_13_method_17_code 6 (some .int) 3 [vR 0, vI x1] (shM m) K' := by
  unfold wp_M_read at H
  refine MT_of (lv := [(0, vR 0), (1, vI x1)]) rfl rfl (Nat.le_of_ble_eq_true rfl) rfl ?_
  refine EV_iload_n 1 d_M_read_0 rfl rfl ?_
  refine EV_if_eq (tgt := 8) d_M_read_1 (by decide) (fun hc => ?_) (fun hc => ?_)
  · have H := H.1 hc
    refine EV_iconst d_M_read_8 ⟨by decide, by decide⟩ ?_
    exact ct_M_read_9 H hK
  · have H := H.2 hc
    refine EV_iconst d_M_read_4 ⟨by decide, by decide⟩ ?_
    refine EV_goto (tgt := 9) d_M_read_5 (by decide) ?_
    exact ct_M_read_9 H hK
theorem ct_M_noSearch {l : Launch} {m : Ob} {K : Ob → Prop} {K' : Option AV → List AC → Prop} (H : wp_M_noSearch m K) (hK : ∀ (m' : Ob), K m' → K' none (shM m')) : MT l ⟨"PrunedSearchModel", "noSearch", "()V"⟩ prog_13_method_22_code 1 none 0 [vR 0] (shM m) K' := by
  unfold wp_M_noSearch at H
  refine MT_of (lv := [(0, vR 0)]) rfl rfl (Nat.le_of_ble_eq_true rfl) rfl ?_
  refine EV_aload_n 0 d_M_noSearch_0 rfl rfl ?_
  refine EV_iconst d_M_noSearch_1 ⟨by decide, by decide⟩ ?_
  refine EV_put (j := 33) d_M_noSearch_2 shM_0 rfl fI11 fO11 fN11 (by decide) k_1001 rfl rfl (fun ad => nf_int ad _) (Nat.le_of_ble_eq_true rfl) shM_0_33 ?_
  refine EV_aload_n 0 d_M_noSearch_5 rfl rfl ?_
  refine EV_iconst d_M_noSearch_6 ⟨by decide, by decide⟩ ?_
  refine EV_put (j := 35) d_M_noSearch_7 shM_0 rfl fI11 fO11 fN11 (by decide) k_1003 rfl rfl (fun ad => nf_int ad _) (Nat.le_of_ble_eq_true rfl) shM_0_35 ?_
  refine EV_aload_n 0 d_M_noSearch_10 rfl rfl ?_
  refine EV_iconst d_M_noSearch_11 ⟨by decide, by decide⟩ ?_
  refine EV_put (j := 36) d_M_noSearch_12 shM_0 rfl fI11 fO11 fN11 (by decide) k_1004 rfl rfl (fun ad => nf_int ad _) (Nat.le_of_ble_eq_true rfl) shM_0_36 ?_
  refine EV_aload_n 0 d_M_noSearch_15 rfl rfl ?_
  refine EV_iconst d_M_noSearch_16 ⟨by decide, by decide⟩ ?_
  refine EV_put (j := 39) d_M_noSearch_17 shM_0 rfl fI11 fO11 fN11 (by decide) k_1007 rfl rfl (fun ad => nf_int ad _) (Nat.le_of_ble_eq_true rfl) shM_0_39 ?_
  refine EV_aload_n 0 d_M_noSearch_20 rfl rfl ?_
  refine EV_iconst d_M_noSearch_21 ⟨by decide, by decide⟩ ?_
  refine EV_put (j := 42) d_M_noSearch_22 shM_0 rfl fI11 fO11 fN11 (by decide) k_1010 rfl rfl (fun ad => nf_int ad _) (Nat.le_of_ble_eq_true rfl) shM_0_42 ?_
  exact EV_vret d_M_noSearch_25 rfl (hK _ H)
theorem ct_M_endOf {l : Launch} {m : Ob} {x1 : Int} {K : Int → Prop} {K' : Option AV → List AC → Prop} (H : wp_M_endOf x1 m K) (hK : ∀ (r : Int), K r → K' (some (vI r)) (shM m)) : MT l ⟨"PrunedSearchModel", "endOf", "(I)I"⟩ prog_13_method_18_code 2 (some .int) 0 [vR 0, vI x1] (shM m) K' := by
  unfold wp_M_endOf at H
  refine MT_of (lv := [(0, vR 0), (1, vI x1)]) rfl rfl (Nat.le_of_ble_eq_true rfl) rfl ?_
  refine EV_iload_n 1 d_M_endOf_0 rfl rfl ?_
  refine EV_iconst d_M_endOf_1 ⟨by decide, by decide⟩ ?_
  obtain ⟨hr, H⟩ := H
  refine EV_iadd d_M_endOf_2 hr ?_
  refine EV_aload_n 0 d_M_endOf_3 rfl rfl ?_
  refine EV_get (j := 9) d_M_endOf_4 shM_0 rfl fI11 (by decide) k_977 rfl ?_
  refine EV_icmp_ge (tgt := 21) d_M_endOf_7 (by decide) (fun hc => ?_) (fun hc => ?_)
  · have H := H.1 hc
    refine EV_aload_n 0 d_M_endOf_21 rfl rfl ?_
    refine EV_get (j := 8) d_M_endOf_22 shM_0 rfl fI11 (by decide) k_976 rfl ?_
    exact EV_iret d_M_endOf_25 rfl (nw_int _) (hK _ H)
  · have H := H.2 hc
    refine EV_aload_n 0 d_M_endOf_10 rfl rfl ?_
    refine EV_get (j := 10) d_M_endOf_11 shM_0 rfl fI11 (by decide) k_978 rfl ?_
    refine EV_iload_n 1 d_M_endOf_14 rfl rfl ?_
    refine EV_iconst d_M_endOf_15 ⟨by decide, by decide⟩ ?_
    obtain ⟨hr, H⟩ := H
    refine EV_iadd d_M_endOf_16 hr ?_
    obtain ⟨hi, H⟩ := H
    refine EV_iald d_M_endOf_17 shM_4 hi ?_
    refine EV_goto (tgt := 25) d_M_endOf_18 (by decide) ?_
    exact EV_iret d_M_endOf_25 rfl (nw_int _) (hK _ H)
theorem ct_M_tooMuch_80 {l : Launch} {m : Ob} {K : Int → Prop} {K' : Option AV → List AC → Prop} {L52 : Int → Int → Int → Prop} {x1 : Int} {x3 : Int} {s0 : Int} (hL52 : ∀ (x1 : Int) (x2 : Int) (x3 : Int), L52 x1 x2 x3 → EV l prog_13_method_19_code "PrunedSearchModel" 4 (some .boolean) 1 52 [(0, vR 0), (1, vI x1), (2, vI x2), (3, vI x3)] [] (shM m) K') (H : M_tooMuch_80 L52 x1 x3 s0 m K) (hK : ∀ (r : Int), K r → K' (some (vI r)) (shM m)) : EV l prog_13_method_19_code "PrunedSearchModel" 4 (some .boolean) 1 80 [(0, vR 0), (1, vI x1), (3, vI x3)] [vI s0] (shM m) K' := by
  refine EV_istore_n (lv' := [(0, vR 0), (1, vI x1), (2, vI s0), (3, vI x3)]) [1, 2, 0, 3] d_M_tooMuch_80 rfl (by decide) rfl ?_
  obtain ⟨hr, H⟩ := H
  refine EV_iinc (lv' := [(0, vR 0), (1, vI x1), (2, vI s0), (3, vI (x3 + 1))]) 3 [1, 2, 3, 0] d_M_tooMuch_81 rfl (by decide) hr rfl ?_
  refine EV_goto (tgt := 52) d_M_tooMuch_84 (by decide) ?_
  exact hL52 x1 s0 (x3 + 1) H
theorem ct_M_tooMuch_75 {l : Launch} {m : Ob} {K : Int → Prop} {K' : Option AV → List AC → Prop} {L52 : Int → Int → Int → Prop} {x1 : Int} {x3 : Int} (hL52 : ∀ (x1 : Int) (x2 : Int) (x3 : Int), L52 x1 x2 x3 → EV l prog_13_method_19_code "PrunedSearchModel" 4 (some .boolean) 1 52 [(0, vR 0), (1, vI x1), (2, vI x2), (3, vI x3)] [] (shM m) K') (H : M_tooMuch_75 L52 x1 x3 m K) (hK : ∀ (r : Int), K r → K' (some (vI r)) (shM m)) : EV l prog_13_method_19_code "PrunedSearchModel" 4 (some .boolean) 1 75 [(0, vR 0), (1, vI x1), (3, vI x3)] [] (shM m) K' := by
  refine EV_iconst d_M_tooMuch_75 ⟨by decide, by decide⟩ ?_
  refine EV_goto (tgt := 80) d_M_tooMuch_76 (by decide) ?_
  exact ct_M_tooMuch_80 hL52 H hK
theorem ct_M_tooMuch_52 {l : Launch} {m : Ob} {K : Int → Prop} {K' : Option AV → List AC → Prop} (hK : ∀ (r : Int), K r → K' (some (vI r)) (shM m)) : ∀ (n : Nat) (x1 : Int) (x2 : Int) (x3 : Int), M_tooMuch_52 n x1 x2 x3 m K → EV l prog_13_method_19_code "PrunedSearchModel" 4 (some .boolean) 1 52 [(0, vR 0), (1, vI x1), (2, vI x2), (3, vI x3)] [] (shM m) K' := by
  intro n
  induction n with
  | zero =>
    intro x1 x2 x3 H
    exact H.elim
  | succ n ih =>
    intro x1 x2 x3 H
    refine EV_iload_n 3 d_M_tooMuch_52 rfl rfl ?_
    refine EV_aload_n 0 d_M_tooMuch_53 rfl rfl ?_
    refine EV_iload_n 1 d_M_tooMuch_54 rfl rfl ?_
    refine EV_callV (as := [vI x1]) (st := [vI x3]) d_M_tooMuch_55 k_1210 k_1212 kp_56 k_12 k_1213 shM_0 rfl pd_14 ⟨by decide, by decide, Nat.le_of_ble_eq_true rfl⟩ rfl (ct_M_endOf H (fun r_2 H => ?_))
    refine EV_icmp_ge (tgt := 87) d_M_tooMuch_58 (by decide) (fun hc => ?_) (fun hc => ?_)
    · have H := H.1 hc
      refine EV_iload_n 2 d_M_tooMuch_87 rfl rfl ?_
      obtain ⟨hb, H⟩ := H
      exact EV_iret d_M_tooMuch_88 rfl (nw_bool hb) (hK _ H)
    · have H := H.2 hc
      refine EV_iload_n 2 d_M_tooMuch_61 rfl rfl ?_
      refine EV_if_ne (tgt := 75) d_M_tooMuch_62 (by decide) (fun hc => ?_) (fun hc => ?_)
      · have H := H.1 hc
        refine EV_lv (lv' := [(0, vR 0), (1, vI x1), (3, vI x3)]) [0, 1, 3] rfl ?_
        exact ct_M_tooMuch_75 (fun x1 x2 x3 H => ih x1 x2 x3 H) H hK
      · have H := H.2 hc
        refine EV_aload_n 0 d_M_tooMuch_65 rfl rfl ?_
        refine EV_get (j := 7) d_M_tooMuch_66 shM_0 rfl fI11 (by decide) k_975 rfl ?_
        refine EV_iload_n 3 d_M_tooMuch_69 rfl rfl ?_
        obtain ⟨hi, H⟩ := H
        refine EV_iald d_M_tooMuch_70 shM_3 hi ?_
        refine EV_iconst d_M_tooMuch_71 ⟨by decide, by decide⟩ ?_
        refine EV_icmp_le (tgt := 79) d_M_tooMuch_72 (by decide) (fun hc => ?_) (fun hc => ?_)
        · have H := H.1 hc
          refine EV_iconst d_M_tooMuch_79 ⟨by decide, by decide⟩ ?_
          refine EV_lv (lv' := [(0, vR 0), (1, vI x1), (3, vI x3)]) [0, 1, 3] rfl ?_
          exact ct_M_tooMuch_80 (fun x1 x2 x3 H => ih x1 x2 x3 H) H hK
        · have H := H.2 hc
          refine EV_lv (lv' := [(0, vR 0), (1, vI x1), (3, vI x3)]) [0, 1, 3] rfl ?_
          exact ct_M_tooMuch_75 (fun x1 x2 x3 H => ih x1 x2 x3 H) H hK
theorem ct_M_tooMuch_44 {l : Launch} {m : Ob} {K : Int → Prop} {K' : Option AV → List AC → Prop} {x1 : Int} {s0 : Int} (H : M_tooMuch_44 x1 s0 m K) (hK : ∀ (r : Int), K r → K' (some (vI r)) (shM m)) : EV l prog_13_method_19_code "PrunedSearchModel" 4 (some .boolean) 1 44 [(0, vR 0), (1, vI x1)] [vI s0] (shM m) K' := by
  refine EV_istore_n (lv' := [(0, vR 0), (1, vI x1), (2, vI s0)]) [1, 2, 0] d_M_tooMuch_44 rfl (by decide) rfl ?_
  refine EV_aload_n 0 d_M_tooMuch_45 rfl rfl ?_
  refine EV_get (j := 10) d_M_tooMuch_46 shM_0 rfl fI11 (by decide) k_978 rfl ?_
  refine EV_iload_n 1 d_M_tooMuch_49 rfl rfl ?_
  obtain ⟨hi, H⟩ := H
  refine EV_iald d_M_tooMuch_50 shM_4 hi ?_
  refine EV_istore_n (lv' := [(0, vR 0), (1, vI x1), (2, vI s0), (3, vI (m.2.1 2 x1))]) [1, 2, 3, 0] d_M_tooMuch_51 rfl (by decide) rfl ?_
  obtain ⟨n, H⟩ := H
  exact ct_M_tooMuch_52 hK n x1 s0 (m.2.1 2 x1) H
theorem ct_M_tooMuch_39 {l : Launch} {m : Ob} {K : Int → Prop} {K' : Option AV → List AC → Prop} {x1 : Int} (H : M_tooMuch_39 x1 m K) (hK : ∀ (r : Int), K r → K' (some (vI r)) (shM m)) : EV l prog_13_method_19_code "PrunedSearchModel" 4 (some .boolean) 1 39 [(0, vR 0), (1, vI x1)] [] (shM m) K' := by
  refine EV_iconst d_M_tooMuch_39 ⟨by decide, by decide⟩ ?_
  refine EV_goto (tgt := 44) d_M_tooMuch_40 (by decide) ?_
  exact ct_M_tooMuch_44 H hK
theorem ct_M_tooMuch {l : Launch} {m : Ob} {x1 : Int} {K : Int → Prop} {K' : Option AV → List AC → Prop} (H : wp_M_tooMuch x1 m K) (hK : ∀ (r : Int), K r → K' (some (vI r)) (shM m)) : MT l ⟨"PrunedSearchModel", "tooMuch", "(I)Z"⟩ prog_13_method_19_code 4 (some .boolean) 1 [vR 0, vI x1] (shM m) K' := by
  unfold wp_M_tooMuch at H
  refine MT_of (lv := [(0, vR 0), (1, vI x1)]) rfl rfl (Nat.le_of_ble_eq_true rfl) rfl ?_
  refine EV_aload_n 0 d_M_tooMuch_0 rfl rfl ?_
  refine EV_iload_n 1 d_M_tooMuch_1 rfl rfl ?_
  refine EV_callV (as := [vI x1]) (st := []) d_M_tooMuch_2 k_1210 k_1212 kp_56 k_12 k_1213 shM_0 rfl pd_14 ⟨by decide, by decide, Nat.le_of_ble_eq_true rfl⟩ rfl (ct_M_endOf H (fun r_1 H => ?_))
  refine EV_aload_n 0 d_M_tooMuch_5 rfl rfl ?_
  refine EV_get (j := 10) d_M_tooMuch_6 shM_0 rfl fI11 (by decide) k_978 rfl ?_
  refine EV_iload_n 1 d_M_tooMuch_9 rfl rfl ?_
  obtain ⟨hi, H⟩ := H
  refine EV_iald d_M_tooMuch_10 shM_4 hi ?_
  obtain ⟨hr, H⟩ := H
  refine EV_isub d_M_tooMuch_11 hr ?_
  refine EV_bipush d_M_tooMuch_12 (by decide +kernel) ⟨by decide, by decide⟩ ?_
  refine EV_icmp_gt (tgt := 39) d_M_tooMuch_14 (by decide) (fun hc => ?_) (fun hc => ?_)
  · have H := H.1 hc
    exact ct_M_tooMuch_39 H hK
  · have H := H.2 hc
    refine EV_aload_n 0 d_M_tooMuch_17 rfl rfl ?_
    refine EV_get (j := 12) d_M_tooMuch_18 shM_0 rfl fI11 (by decide) k_980 rfl ?_
    refine EV_iload_n 1 d_M_tooMuch_21 rfl rfl ?_
    obtain ⟨hi, H⟩ := H
    refine EV_iald d_M_tooMuch_22 shM_6 hi ?_
    refine EV_bipush d_M_tooMuch_23 (by decide +kernel) ⟨by decide, by decide⟩ ?_
    refine EV_icmp_gt (tgt := 39) d_M_tooMuch_25 (by decide) (fun hc => ?_) (fun hc => ?_)
    · have H := H.1 hc
      exact ct_M_tooMuch_39 H hK
    · have H := H.2 hc
      refine EV_aload_n 0 d_M_tooMuch_28 rfl rfl ?_
      refine EV_get (j := 11) d_M_tooMuch_29 shM_0 rfl fI11 (by decide) k_979 rfl ?_
      refine EV_iload_n 1 d_M_tooMuch_32 rfl rfl ?_
      obtain ⟨hi, H⟩ := H
      refine EV_iald d_M_tooMuch_33 shM_5 hi ?_
      refine EV_bipush d_M_tooMuch_34 (by decide +kernel) ⟨by decide, by decide⟩ ?_
      refine EV_icmp_le (tgt := 43) d_M_tooMuch_36 (by decide) (fun hc => ?_) (fun hc => ?_)
      · have H := H.1 hc
        refine EV_iconst d_M_tooMuch_43 ⟨by decide, by decide⟩ ?_
        exact ct_M_tooMuch_44 H hK
      · have H := H.2 hc
        exact ct_M_tooMuch_39 H hK
