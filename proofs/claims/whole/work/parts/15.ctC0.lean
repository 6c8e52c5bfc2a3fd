/-! printed by wip/gen/drive.py -/
theorem ct_Text_letterOf {l : Launch} {o0 o1 o2 o3 o4 o5 o6 o7 o8 o9 o10 : Ob} {y0 : Nat} {x2 : Int} {K : Int → Prop} {K' : Option AV → List AC → Prop} (H : wp_Text_letterOf y0 x2 K) (hK : ∀ (r : Int), K r → K' (some (vI r)) (shC o0 o1 o2 o3 o4 o5 o6 o7 o8 o9 o10)) : MT l ⟨"PrunedSearch$Text", "letterOf", "(JI)C"⟩ prog_10_method_3_code 3 (some .char) 0 [vL y0, vI x2] (shC o0 o1 o2 o3 o4 o5 o6 o7 o8 o9 o10) K' := by
  unfold wp_Text_letterOf at H
  refine MT_of (lv := [(0, vL y0), (2, vI x2)]) rfl rfl (Nat.le_of_ble_eq_true rfl) rfl ?_
  refine EV_lload_n 0 d_Text_letterOf_0 rfl rfl ?_
  refine EV_bipush d_Text_letterOf_1 (by decide +kernel) ⟨by decide, by decide⟩ ?_
  refine EV_iload_n 1 d_Text_letterOf_3 rfl rfl ?_
  obtain ⟨hr, H⟩ := H
  refine EV_imul d_Text_letterOf_4 hr ?_
  obtain ⟨h1, H⟩ := H
  refine EV_lushr d_Text_letterOf_5 h1 ?_
  refine EV_ldc2 (n := 255) d_Text_letterOf_6 k_346 (by decide +kernel) (by decide) ?_
  refine EV_land d_Text_letterOf_9 ?_
  obtain ⟨h0, H⟩ := H
  refine EV_l2i d_Text_letterOf_10 h0 ?_
  obtain ⟨h0, H⟩ := H
  refine EV_i2c d_Text_letterOf_11 h0 ?_
  obtain ⟨hb, H⟩ := H
  exact EV_iret d_Text_letterOf_12 rfl (nw_char hb) (hK _ H)
theorem ct_P_isSmall_12 {l : Launch} {o0 o1 o2 o3 o4 o5 o6 o7 o8 o9 o10 : Ob} {K : Int → Prop} {K' : Option AV → List AC → Prop} {x0 : Int} (H : P_isSmall_12 x0 K) (hK : ∀ (r : Int), K r → K' (some (vI r)) (shC o0 o1 o2 o3 o4 o5 o6 o7 o8 o9 o10)) : EV l prog_1_method_13_code "PrunedSearch" 1 (some .boolean) 0 12 [(0, vI x0)] [] (shC o0 o1 o2 o3 o4 o5 o6 o7 o8 o9 o10) K' := by
  refine EV_iload_n 0 d_P_isSmall_12 rfl rfl ?_
  refine EV_bipush d_P_isSmall_13 (by decide +kernel) ⟨by decide, by decide⟩ ?_
  refine EV_icmp_lt (tgt := 28) d_P_isSmall_15 (by decide) (fun hc => ?_) (fun hc => ?_)
  · have H := H.1 hc
    refine EV_iconst d_P_isSmall_28 ⟨by decide, by decide⟩ ?_
    exact EV_iret d_P_isSmall_29 rfl (nw_bool (by decide)) (hK _ H)
  · have H := H.2 hc
    refine EV_iload_n 0 d_P_isSmall_18 rfl rfl ?_
    refine EV_bipush d_P_isSmall_19 (by decide +kernel) ⟨by decide, by decide⟩ ?_
    refine EV_icmp_gt (tgt := 28) d_P_isSmall_21 (by decide) (fun hc => ?_) (fun hc => ?_)
    · have H := H.1 hc
      refine EV_iconst d_P_isSmall_28 ⟨by decide, by decide⟩ ?_
      exact EV_iret d_P_isSmall_29 rfl (nw_bool (by decide)) (hK _ H)
    · have H := H.2 hc
      refine EV_iconst d_P_isSmall_24 ⟨by decide, by decide⟩ ?_
      refine EV_goto (tgt := 29) d_P_isSmall_25 (by decide) ?_
      exact EV_iret d_P_isSmall_29 rfl (nw_bool (by decide)) (hK _ H)
theorem ct_P_isSmall {l : Launch} {o0 o1 o2 o3 o4 o5 o6 o7 o8 o9 o10 : Ob} {x0 : Int} {K : Int → Prop} {K' : Option AV → List AC → Prop} (H : wp_P_isSmall x0 K) (hK : ∀ (r : Int), K r → K' (some (vI r)) (shC o0 o1 o2 o3 o4 o5 o6 o7 o8 o9 o10)) : MT l ⟨"PrunedSearch", "isSmall", "(C)Z"⟩ prog_1_method_13_code 1 (some .boolean) 0 [vI x0] (shC o0 o1 o2 o3 o4 o5 o6 o7 o8 o9 o10) K' := by
  unfold wp_P_isSmall at H
  refine MT_of (lv := [(0, vI x0)]) rfl rfl (Nat.le_of_ble_eq_true rfl) rfl ?_
  refine EV_iload_n 0 d_P_isSmall_0 rfl rfl ?_
  refine EV_bipush d_P_isSmall_1 (by decide +kernel) ⟨by decide, by decide⟩ ?_
  refine EV_icmp_lt (tgt := 12) d_P_isSmall_3 (by decide) (fun hc => ?_) (fun hc => ?_)
  · have H := H.1 hc
    exact ct_P_isSmall_12 H hK
  · have H := H.2 hc
    refine EV_iload_n 0 d_P_isSmall_6 rfl rfl ?_
    refine EV_bipush d_P_isSmall_7 (by decide +kernel) ⟨by decide, by decide⟩ ?_
    refine EV_icmp_le (tgt := 24) d_P_isSmall_9 (by decide) (fun hc => ?_) (fun hc => ?_)
    · have H := H.1 hc
      refine EV_iconst d_P_isSmall_24 ⟨by decide, by decide⟩ ?_
      refine EV_goto (tgt := 29) d_P_isSmall_25 (by decide) ?_
      exact EV_iret d_P_isSmall_29 rfl (nw_bool (by decide)) (hK _ H)
    · have H := H.2 hc
      exact ct_P_isSmall_12 H hK
theorem ct_P_isWordLetter_19 {l : Launch} {o0 o1 o2 o3 o4 o5 o6 o7 o8 o9 o10 : Ob} {K : Int → Prop} {K' : Option AV → List AC → Prop} {x0 : Int} (H : P_isWordLetter_19 x0 K) (hK : ∀ (r : Int), K r → K' (some (vI r)) (shC o0 o1 o2 o3 o4 o5 o6 o7 o8 o9 o10)) : EV l prog_1_method_14_code "PrunedSearch" 1 (some .boolean) 1 19 [(0, vI x0)] [] (shC o0 o1 o2 o3 o4 o5 o6 o7 o8 o9 o10) K' := by
  refine EV_iload_n 0 d_P_isWordLetter_19 rfl rfl ?_
  refine EV_bipush d_P_isWordLetter_20 (by decide +kernel) ⟨by decide, by decide⟩ ?_
  refine EV_icmp_ne (tgt := 29) d_P_isWordLetter_22 (by decide) (fun hc => ?_) (fun hc => ?_)
  · have H := H.1 hc
    refine EV_iconst d_P_isWordLetter_29 ⟨by decide, by decide⟩ ?_
    exact EV_iret d_P_isWordLetter_30 rfl (nw_bool (by decide)) (hK _ H)
  · have H := H.2 hc
    refine EV_iconst d_P_isWordLetter_25 ⟨by decide, by decide⟩ ?_
    refine EV_goto (tgt := 30) d_P_isWordLetter_26 (by decide) ?_
    exact EV_iret d_P_isWordLetter_30 rfl (nw_bool (by decide)) (hK _ H)
theorem ct_P_isWordLetter {l : Launch} {o0 o1 o2 o3 o4 o5 o6 o7 o8 o9 o10 : Ob} {x0 : Int} {K : Int → Prop} {K' : Option AV → List AC → Prop} (H : wp_P_isWordLetter x0 K) (hK : ∀ (r : Int), K r → K' (some (vI r)) (shC o0 o1 o2 o3 o4 o5 o6 o7 o8 o9 o10)) : MT l ⟨"PrunedSearch", "isWordLetter", "(C)Z"⟩ prog_1_method_14_code 1 (some .boolean) 1 [vI x0] (shC o0 o1 o2 o3 o4 o5 o6 o7 o8 o9 o10) K' := by
  unfold wp_P_isWordLetter at H
  refine MT_of (lv := [(0, vI x0)]) rfl rfl (Nat.le_of_ble_eq_true rfl) rfl ?_
  refine EV_iload_n 0 d_P_isWordLetter_0 rfl rfl ?_
  refine EV_callT (as := [vI x0]) (st := []) d_P_isWordLetter_1 k_350 k_351 k_1 k_352 pd_47 ⟨by decide, by decide, Nat.le_of_ble_eq_true rfl⟩ rfl (ct_P_isSmall H (fun r_1 H => ?_))
  refine EV_if_ne (tgt := 25) d_P_isWordLetter_4 (by decide) (fun hc => ?_) (fun hc => ?_)
  · have H := H.1 hc
    refine EV_iconst d_P_isWordLetter_25 ⟨by decide, by decide⟩ ?_
    refine EV_goto (tgt := 30) d_P_isWordLetter_26 (by decide) ?_
    exact EV_iret d_P_isWordLetter_30 rfl (nw_bool (by decide)) (hK _ H)
  · have H := H.2 hc
    refine EV_iload_n 0 d_P_isWordLetter_7 rfl rfl ?_
    refine EV_bipush d_P_isWordLetter_8 (by decide +kernel) ⟨by decide, by decide⟩ ?_
    refine EV_icmp_lt (tgt := 19) d_P_isWordLetter_10 (by decide) (fun hc => ?_) (fun hc => ?_)
    · have H := H.1 hc
      exact ct_P_isWordLetter_19 H hK
    · have H := H.2 hc
      refine EV_iload_n 0 d_P_isWordLetter_13 rfl rfl ?_
      refine EV_bipush d_P_isWordLetter_14 (by decide +kernel) ⟨by decide, by decide⟩ ?_
      refine EV_icmp_le (tgt := 25) d_P_isWordLetter_16 (by decide) (fun hc => ?_) (fun hc => ?_)
      · have H := H.1 hc
        refine EV_iconst d_P_isWordLetter_25 ⟨by decide, by decide⟩ ?_
        refine EV_goto (tgt := 30) d_P_isWordLetter_26 (by decide) ?_
        exact EV_iret d_P_isWordLetter_30 rfl (nw_bool (by decide)) (hK _ H)
      · have H := H.2 hc
        exact ct_P_isWordLetter_19 H hK
theorem ct_Str_isLatin1 {l : Launch} {o0 o1 o2 o3 o4 o5 o6 o7 o8 o9 o10 : Ob} {K : Int → Prop} {K' : Option AV → List AC → Prop} (H : wp_Str_isLatin1 K) (hK : ∀ (r : Int), K r → K' (some (vI r)) (shC o0 o1 o2 o3 o4 o5 o6 o7 o8 o9 o10)) : MT l ⟨"java/lang/String", "isLatin1", "()Z"⟩ prog_16_method_154_code 1 (some .boolean) 0 [vR 1000] (shC o0 o1 o2 o3 o4 o5 o6 o7 o8 o9 o10) K' := by
  unfold wp_Str_isLatin1 at H
  refine MT_of (lv := [(0, vR 1000)]) rfl rfl (Nat.le_of_ble_eq_true rfl) rfl ?_
  refine EV_gets d_Str_isLatin1_0 k_366 ?_
  refine EV_if_eq (tgt := 17) d_Str_isLatin1_3 (by decide) (fun hc => ?_) (fun hc => ?_)
  · exact absurd hc (by decide)
  · refine EV_aload_n 0 d_Str_isLatin1_6 rfl rfl ?_
    refine EV_strC d_Str_isLatin1_7 k_1369 ?_
    refine EV_if_ne (tgt := 17) d_Str_isLatin1_10 (by decide) (fun hc => ?_) (fun hc => ?_)
    · exact absurd hc (by decide)
    · refine EV_iconst d_Str_isLatin1_13 ⟨by decide, by decide⟩ ?_
      refine EV_goto (tgt := 18) d_Str_isLatin1_14 (by decide) ?_
      exact EV_iret d_Str_isLatin1_18 rfl (nw_bool (by decide)) (hK _ H)
theorem ct_Str_coder {l : Launch} {o0 o1 o2 o3 o4 o5 o6 o7 o8 o9 o10 : Ob} {K : Int → Prop} {K' : Option AV → List AC → Prop} (H : wp_Str_coder K) (hK : ∀ (r : Int), K r → K' (some (vI r)) (shC o0 o1 o2 o3 o4 o5 o6 o7 o8 o9 o10)) : MT l ⟨"java/lang/String", "coder", "()B"⟩ prog_16_method_152_code 1 (some .byte) 0 [vR 1000] (shC o0 o1 o2 o3 o4 o5 o6 o7 o8 o9 o10) K' := by
  unfold wp_Str_coder at H
  refine MT_of (lv := [(0, vR 1000)]) rfl rfl (Nat.le_of_ble_eq_true rfl) rfl ?_
  refine EV_gets d_Str_coder_0 k_366 ?_
  refine EV_if_eq (tgt := 13) d_Str_coder_3 (by decide) (fun hc => ?_) (fun hc => ?_)
  · exact absurd hc (by decide)
  · refine EV_aload_n 0 d_Str_coder_6 rfl rfl ?_
    refine EV_strC d_Str_coder_7 k_1369 ?_
    refine EV_goto (tgt := 14) d_Str_coder_10 (by decide) ?_
    exact EV_iret d_Str_coder_14 rfl (by decide +kernel) (hK _ H)
theorem ct_Str_length {l : Launch} {o0 o1 o2 o3 o4 o5 o6 o7 o8 o9 o10 : Ob} {K : Int → Prop} {K' : Option AV → List AC → Prop} (H : wp_Str_length K) (hK : ∀ (r : Int), K r → K' (some (vI r)) (shC o0 o1 o2 o3 o4 o5 o6 o7 o8 o9 o10)) : MT l ⟨"java/lang/String", "length", "()I"⟩ prog_16_method_54_code 1 (some .int) 1 [vR 1000] (shC o0 o1 o2 o3 o4 o5 o6 o7 o8 o9 o10) K' := by
  unfold wp_Str_length at H
  refine MT_of (lv := [(0, vR 1000)]) rfl rfl (Nat.le_of_ble_eq_true rfl) rfl ?_
  refine EV_aload_n 0 d_Str_length_0 rfl rfl ?_
  refine EV_strV d_Str_length_1 k_1370 ?_
  refine EV_strL d_Str_length_4 ?_
  refine EV_aload_n 0 d_Str_length_5 rfl rfl ?_
  refine EV_callX (as := []) (st := [vI 11]) d_Str_length_6 k_372 k_373 k_374 k_13 k_375 rfl pd_48 ⟨by decide, by decide, Nat.le_of_ble_eq_true rfl⟩ rfl (ct_Str_coder H (fun r_1 H => ?_))
  obtain ⟨h0, h1, H⟩ := H
  refine EV_ishr d_Str_length_9 h0 h1 ?_
  exact EV_iret d_Str_length_10 rfl (nw_int _) (hK _ H)
theorem ct_Lat_canEncode {l : Launch} {o0 o1 o2 o3 o4 o5 o6 o7 o8 o9 o10 : Ob} {x0 : Int} {K : Int → Prop} {K' : Option AV → List AC → Prop} (H : wp_Lat_canEncode x0 K) (hK : ∀ (r : Int), K r → K' (some (vI r)) (shC o0 o1 o2 o3 o4 o5 o6 o7 o8 o9 o10)) : MT l ⟨"java/lang/StringLatin1", "canEncode", "(I)Z"⟩ prog_17_method_4_code 1 (some .boolean) 0 [vI x0] (shC o0 o1 o2 o3 o4 o5 o6 o7 o8 o9 o10) K' := by
  unfold wp_Lat_canEncode at H
  refine MT_of (lv := [(0, vI x0)]) rfl rfl (Nat.le_of_ble_eq_true rfl) rfl ?_
  refine EV_iload_n 0 d_Lat_canEncode_0 rfl rfl ?_
  refine EV_if_lt (tgt := 15) d_Lat_canEncode_1 (by decide) (fun hc => ?_) (fun hc => ?_)
  · have H := H.1 hc
    refine EV_iconst d_Lat_canEncode_15 ⟨by decide, by decide⟩ ?_
    exact EV_iret d_Lat_canEncode_16 rfl (nw_bool (by decide)) (hK _ H)
  · have H := H.2 hc
    refine EV_iload_n 0 d_Lat_canEncode_4 rfl rfl ?_
    refine EV_sipush d_Lat_canEncode_5 (by decide +kernel) ⟨by decide, by decide⟩ ?_
    refine EV_icmp_gt (tgt := 15) d_Lat_canEncode_8 (by decide) (fun hc => ?_) (fun hc => ?_)
    · have H := H.1 hc
      refine EV_iconst d_Lat_canEncode_15 ⟨by decide, by decide⟩ ?_
      exact EV_iret d_Lat_canEncode_16 rfl (nw_bool (by decide)) (hK _ H)
    · have H := H.2 hc
      refine EV_iconst d_Lat_canEncode_11 ⟨by decide, by decide⟩ ?_
      refine EV_goto (tgt := 16) d_Lat_canEncode_12 (by decide) ?_
      exact EV_iret d_Lat_canEncode_16 rfl (nw_bool (by decide)) (hK _ H)
theorem ct_Lat_indexOfChar_7 {l : Launch} {o0 o1 o2 o3 o4 o5 o6 o7 o8 o9 o10 : Ob} {K : Int → Prop} {K' : Option AV → List AC → Prop} (hK : ∀ (r : Int), K r → K' (some (vI r)) (shC o0 o1 o2 o3 o4 o5 o6 o7 o8 o9 o10)) : ∀ (n : Nat) (x3 : Int) (x4 : Int) (x5 : Int), Lat_indexOfChar_7 n x3 x4 x5 K → EV l prog_17_method_23_code "java/lang/StringLatin1" 6 (some .int) 0 7 [(0, vR 1001), (3, vI x3), (4, vI x4), (5, vI x5)] [] (shC o0 o1 o2 o3 o4 o5 o6 o7 o8 o9 o10) K' := by
  intro n
  induction n with
  | zero =>
    intro x3 x4 x5 H
    exact H.elim
  | succ n ih =>
    intro x3 x4 x5 H
    refine EV_iload 3 d_Lat_indexOfChar_7 rfl ?_
    refine EV_iload_n 1 d_Lat_indexOfChar_9 rfl rfl ?_
    refine EV_icmp_ge (tgt := 31) d_Lat_indexOfChar_10 (by decide) (fun hc => ?_) (fun hc => ?_)
    · have H := H.1 hc
      refine EV_iconst d_Lat_indexOfChar_31 ⟨by decide, by decide⟩ ?_
      exact EV_iret d_Lat_indexOfChar_32 rfl (nw_int _) (hK _ H)
    · have H := H.2 hc
      refine EV_aload_n 0 d_Lat_indexOfChar_13 rfl rfl ?_
      refine EV_iload 3 d_Lat_indexOfChar_14 rfl ?_
      obtain ⟨hi, H⟩ := H
      refine EV_strB d_Lat_indexOfChar_16 hi ?_
      refine EV_iload 2 d_Lat_indexOfChar_17 rfl ?_
      refine EV_icmp_ne (tgt := 25) d_Lat_indexOfChar_19 (by decide) (fun hc => ?_) (fun hc => ?_)
      · have H := H.1 hc
        obtain ⟨hr, H⟩ := H
        refine EV_iinc (lv' := [(0, vR 1001), (3, vI x3), (4, vI x4), (5, vI (x5 + 1))]) 3 [1, 2, 3, 0] d_Lat_indexOfChar_25 rfl (by decide) hr rfl ?_
        refine EV_goto (tgt := 7) d_Lat_indexOfChar_28 (by decide) ?_
        exact ih x3 x4 (x5 + 1) H
      · have H := H.2 hc
        refine EV_iload 3 d_Lat_indexOfChar_22 rfl ?_
        exact EV_iret d_Lat_indexOfChar_24 rfl (nw_int _) (hK _ H)
theorem ct_Lat_indexOfChar {l : Launch} {o0 o1 o2 o3 o4 o5 o6 o7 o8 o9 o10 : Ob} {x1 : Int} {x2 : Int} {x3 : Int} {K : Int → Prop} {K' : Option AV → List AC → Prop} (H : wp_Lat_indexOfChar x1 x2 x3 K) (hK : ∀ (r : Int), K r → K' (some (vI r)) (shC o0 o1 o2 o3 o4 o5 o6 o7 o8 o9 o10)) : MT l ⟨"java/lang/StringLatin1", "indexOfChar", "([BIII)I"⟩ prog_17_method_23_code 6 (some .int) 0 [vR 1001, vI x1, vI x2, vI x3] (shC o0 o1 o2 o3 o4 o5 o6 o7 o8 o9 o10) K' := by
  unfold wp_Lat_indexOfChar at H
  refine MT_of (lv := [(0, vR 1001), (1, vI x1), (2, vI x2), (3, vI x3)]) rfl rfl (Nat.le_of_ble_eq_true rfl) rfl ?_
  refine EV_iload_n 1 d_Lat_indexOfChar_0 rfl rfl ?_
  obtain ⟨h0, H⟩ := H
  refine EV_i2b d_Lat_indexOfChar_1 h0 ?_
  refine EV_istore (lv' := [(0, vR 1001), (1, vI x1), (2, vI x2), (3, vI x3), (4, vI (if x1 < 128 then x1 else x1 - 256))]) [1, 2, 3, 4, 0] d_Lat_indexOfChar_2 (by decide) rfl ?_
  refine EV_iload_n 2 d_Lat_indexOfChar_4 rfl rfl ?_
  refine EV_istore (lv' := [(0, vR 1001), (1, vI x1), (2, vI x2), (3, vI x3), (4, vI (if x1 < 128 then x1 else x1 - 256)), (5, vI x2)]) [1, 2, 3, 4, 5, 0] d_Lat_indexOfChar_5 (by decide) rfl ?_
  refine EV_lv (lv' := [(0, vR 1001), (3, vI x3), (4, vI (if x1 < 128 then x1 else x1 - 256)), (5, vI x2)]) [0, 3, 4, 5] rfl ?_
  obtain ⟨n, H⟩ := H
  exact ct_Lat_indexOfChar_7 hK n x3 (if x1 < 128 then x1 else x1 - 256) x2 H
theorem ct_Lat_indexOf {l : Launch} {o0 o1 o2 o3 o4 o5 o6 o7 o8 o9 o10 : Ob} {x1 : Int} {x2 : Int} {x3 : Int} {K : Int → Prop} {K' : Option AV → List AC → Prop} (H : wp_Lat_indexOf x1 x2 x3 K) (hK : ∀ (r : Int), K r → K' (some (vI r)) (shC o0 o1 o2 o3 o4 o5 o6 o7 o8 o9 o10)) : MT l ⟨"java/lang/StringLatin1", "indexOf", "([BIII)I"⟩ prog_17_method_22_code 4 (some .int) 1 [vR 1001, vI x1, vI x2, vI x3] (shC o0 o1 o2 o3 o4 o5 o6 o7 o8 o9 o10) K' := by
  unfold wp_Lat_indexOf at H
  refine MT_of (lv := [(0, vR 1001), (1, vI x1), (2, vI x2), (3, vI x3)]) rfl rfl (Nat.le_of_ble_eq_true rfl) rfl ?_
  refine EV_iload_n 1 d_Lat_indexOf_0 rfl rfl ?_
  refine EV_callT (as := [vI x1]) (st := []) d_Lat_indexOf_1 k_379 k_380 k_14 k_381 pd_50 ⟨by decide, by decide, Nat.le_of_ble_eq_true rfl⟩ rfl (ct_Lat_canEncode H (fun r_1 H => ?_))
  refine EV_if_ne (tgt := 9) d_Lat_indexOf_4 (by decide) (fun hc => ?_) (fun hc => ?_)
  · have H := H.1 hc
    refine EV_iload_n 2 d_Lat_indexOf_9 rfl rfl ?_
    refine EV_iconst d_Lat_indexOf_10 ⟨by decide, by decide⟩ ?_
    refine EV_mmax (st := []) d_Lat_indexOf_11 k_382 k_383 k_15 k_384 ⟨by decide, Nat.le_of_ble_eq_true rfl⟩ ?_
    refine EV_istore_n (lv' := [(0, vR 1001), (1, vI x1), (2, vI (max x2 (0 : Int))), (3, vI x3)]) [1, 2, 0, 3] d_Lat_indexOf_14 rfl (by decide) rfl ?_
    refine EV_iload_n 3 d_Lat_indexOf_15 rfl rfl ?_
    refine EV_aload_n 0 d_Lat_indexOf_16 rfl rfl ?_
    refine EV_strL d_Lat_indexOf_17 ?_
    refine EV_mmin (st := []) d_Lat_indexOf_18 k_385 k_386 k_15 k_387 ⟨by decide, Nat.le_of_ble_eq_true rfl⟩ ?_
    refine EV_istore_n (lv' := [(0, vR 1001), (1, vI x1), (2, vI (max x2 (0 : Int))), (3, vI (min x3 (11 : Int)))]) [1, 2, 3, 0] d_Lat_indexOf_21 rfl (by decide) rfl ?_
    refine EV_iload_n 2 d_Lat_indexOf_22 rfl rfl ?_
    refine EV_iload_n 3 d_Lat_indexOf_23 rfl rfl ?_
    refine EV_icmp_lt (tgt := 29) d_Lat_indexOf_24 (by decide) (fun hc => ?_) (fun hc => ?_)
    · have H := H.1 hc
      refine EV_aload_n 0 d_Lat_indexOf_29 rfl rfl ?_
      refine EV_iload_n 1 d_Lat_indexOf_30 rfl rfl ?_
      refine EV_iload_n 2 d_Lat_indexOf_31 rfl rfl ?_
      refine EV_iload_n 3 d_Lat_indexOf_32 rfl rfl ?_
      refine EV_callT (as := [vR 1001, vI x1, vI (max x2 (0 : Int)), vI (min x3 (11 : Int))]) (st := []) d_Lat_indexOf_33 k_388 k_389 k_14 k_390 pd_49 ⟨by decide, by decide, Nat.le_of_ble_eq_true rfl⟩ rfl (ct_Lat_indexOfChar H (fun r_2 H => ?_))
      exact EV_iret d_Lat_indexOf_36 rfl (nw_int _) (hK _ H)
    · have H := H.2 hc
      refine EV_iconst d_Lat_indexOf_27 ⟨by decide, by decide⟩ ?_
      exact EV_iret d_Lat_indexOf_28 rfl (nw_int _) (hK _ H)
  · have H := H.2 hc
    refine EV_iconst d_Lat_indexOf_7 ⟨by decide, by decide⟩ ?_
    exact EV_iret d_Lat_indexOf_8 rfl (nw_int _) (hK _ H)
theorem ct_Str_indexOf2 {l : Launch} {o0 o1 o2 o3 o4 o5 o6 o7 o8 o9 o10 : Ob} {x1 : Int} {x2 : Int} {K : Int → Prop} {K' : Option AV → List AC → Prop} (H : wp_Str_indexOf2 x1 x2 K) (hK : ∀ (r : Int), K r → K' (some (vI r)) (shC o0 o1 o2 o3 o4 o5 o6 o7 o8 o9 o10)) : MT l ⟨"java/lang/String", "indexOf", "(II)I"⟩ prog_16_method_80_code 3 (some .int) 2 [vR 1000, vI x1, vI x2] (shC o0 o1 o2 o3 o4 o5 o6 o7 o8 o9 o10) K' := by
  unfold wp_Str_indexOf2 at H
  refine MT_of (lv := [(0, vR 1000), (1, vI x1), (2, vI x2)]) rfl rfl (Nat.le_of_ble_eq_true rfl) rfl ?_
  refine EV_aload_n 0 d_Str_indexOf2_0 rfl rfl ?_
  refine EV_callX (as := []) (st := []) d_Str_indexOf2_1 k_362 k_363 k_364 k_13 k_365 rfl pd_53 ⟨by decide, by decide, Nat.le_of_ble_eq_true rfl⟩ rfl (ct_Str_isLatin1 H (fun r_1 H => ?_))
  refine EV_if_eq (tgt := 23) d_Str_indexOf2_4 (by decide) (fun hc => ?_) (fun hc => ?_)
  · have H := H.1 hc
    exact H.elim
  · have H := H.2 hc
    refine EV_aload_n 0 d_Str_indexOf2_7 rfl rfl ?_
    refine EV_strV d_Str_indexOf2_8 k_1370 ?_
    refine EV_iload_n 1 d_Str_indexOf2_11 rfl rfl ?_
    refine EV_iload_n 2 d_Str_indexOf2_12 rfl rfl ?_
    refine EV_aload_n 0 d_Str_indexOf2_13 rfl rfl ?_
    refine EV_callX (as := []) (st := [vI x2, vI x1, vR 1001]) d_Str_indexOf2_14 k_368 k_369 k_370 k_13 k_371 rfl pd_52 ⟨by decide, by decide, Nat.le_of_ble_eq_true rfl⟩ rfl (ct_Str_length H (fun r_2 H => ?_))
    refine EV_callT (as := [vR 1001, vI x1, vI x2, vI r_2]) (st := []) d_Str_indexOf2_17 k_376 k_377 k_14 k_378 pd_51 ⟨by decide, by decide, Nat.le_of_ble_eq_true rfl⟩ rfl (ct_Lat_indexOf H (fun r_3 H => ?_))
    refine EV_goto (tgt := 36) d_Str_indexOf2_20 (by decide) ?_
    exact EV_iret d_Str_indexOf2_36 rfl (nw_int _) (hK _ H)
theorem ct_Str_indexOf {l : Launch} {o0 o1 o2 o3 o4 o5 o6 o7 o8 o9 o10 : Ob} {x1 : Int} {K : Int → Prop} {K' : Option AV → List AC → Prop} (H : wp_Str_indexOf x1 K) (hK : ∀ (r : Int), K r → K' (some (vI r)) (shC o0 o1 o2 o3 o4 o5 o6 o7 o8 o9 o10)) : MT l ⟨"java/lang/String", "indexOf", "(I)I"⟩ prog_16_method_79_code 2 (some .int) 3 [vR 1000, vI x1] (shC o0 o1 o2 o3 o4 o5 o6 o7 o8 o9 o10) K' := by
  unfold wp_Str_indexOf at H
  refine MT_of (lv := [(0, vR 1000), (1, vI x1)]) rfl rfl (Nat.le_of_ble_eq_true rfl) rfl ?_
  refine EV_aload_n 0 d_Str_indexOf_0 rfl rfl ?_
  refine EV_iload_n 1 d_Str_indexOf_1 rfl rfl ?_
  refine EV_iconst d_Str_indexOf_2 ⟨by decide, by decide⟩ ?_
  refine EV_callX (as := [vI x1, vI 0]) (st := []) d_Str_indexOf_3 k_358 k_359 k_360 k_13 k_361 rfl pd_54 ⟨by decide, by decide, Nat.le_of_ble_eq_true rfl⟩ rfl (ct_Str_indexOf2 H (fun r_1 H => ?_))
  exact EV_iret d_Str_indexOf_6 rfl (nw_int _) (hK _ H)
theorem ct_Text_add_96 {l : Launch} {o1 o2 o3 o4 o5 o6 o7 o8 o9 o10 : Ob} {K : Int → Ob → Prop} {K' : Option AV → List AC → Prop} {x3 : Int} {tx : Ob} (H : Text_add_96 x3 tx K) (hK : ∀ (r : Int) (tx' : Ob), K r tx' → K' (some (vI r)) (shC tx' o1 o2 o3 o4 o5 o6 o7 o8 o9 o10)) : EV l prog_10_method_2_code "PrunedSearch$Text" 5 (some .boolean) 4 96 [(0, vR 1), (3, vI x3)] [] (shC tx o1 o2 o3 o4 o5 o6 o7 o8 o9 o10) K' := by
  refine EV_aload_n 0 d_Text_add_96 rfl rfl ?_
  refine EV_dup d_Text_add_97 rfl ?_
  refine EV_get (j := 1) d_Text_add_98 shC_1 rfl fI1 (by decide) k_35 rfl ?_
  refine EV_iload_n 1 d_Text_add_101 rfl rfl ?_
  obtain ⟨hr, H⟩ := H
  refine EV_iadd d_Text_add_102 hr ?_
  refine EV_put (j := 1) d_Text_add_103 shC_1 rfl fI1 fO1 fN1 (by decide) k_35 rfl rfl (fun ad => nf_int ad _) (Nat.le_of_ble_eq_true rfl) shC_1_1 ?_
  refine EV_iconst d_Text_add_106 ⟨by decide, by decide⟩ ?_
  exact EV_iret d_Text_add_107 rfl (nw_bool (by decide)) (hK _ _ H)
theorem ct_Text_add_66 {l : Launch} {o1 o2 o3 o4 o5 o6 o7 o8 o9 o10 : Ob} {K : Int → Ob → Prop} {K' : Option AV → List AC → Prop} (hK : ∀ (r : Int) (tx' : Ob), K r tx' → K' (some (vI r)) (shC tx' o1 o2 o3 o4 o5 o6 o7 o8 o9 o10)) : ∀ (n : Nat) (y1 : Nat) (x3 : Int) (x4 : Int) (tx : Ob), Text_add_66 n y1 x3 x4 tx K → EV l prog_10_method_2_code "PrunedSearch$Text" 5 (some .boolean) 4 66 [(0, vR 1), (1, vL y1), (3, vI x3), (4, vI x4)] [] (shC tx o1 o2 o3 o4 o5 o6 o7 o8 o9 o10) K' := by
  intro n
  induction n with
  | zero =>
    intro y1 x3 x4 tx H
    exact H.elim
  | succ n ih =>
    intro y1 x3 x4 tx H
    refine EV_iload 3 d_Text_add_66 rfl ?_
    refine EV_iload_n 2 d_Text_add_68 rfl rfl ?_
    refine EV_icmp_ge (tgt := 96) d_Text_add_69 (by decide) (fun hc => ?_) (fun hc => ?_)
    · have H := H.1 hc
      refine EV_lv (lv' := [(0, vR 1), (3, vI x3)]) [0, 2] rfl ?_
      exact ct_Text_add_96 H hK
    · have H := H.2 hc
      refine EV_aload_n 0 d_Text_add_72 rfl rfl ?_
      refine EV_get (j := 0) d_Text_add_73 shC_1 rfl fI1 (by decide) k_34 rfl ?_
      refine EV_aload_n 0 d_Text_add_76 rfl rfl ?_
      refine EV_get (j := 1) d_Text_add_77 shC_1 rfl fI1 (by decide) k_35 rfl ?_
      refine EV_iload 3 d_Text_add_80 rfl ?_
      obtain ⟨hr, H⟩ := H
      refine EV_iadd d_Text_add_82 hr ?_
      refine EV_lload_n 1 d_Text_add_83 rfl rfl ?_
      refine EV_iload 3 d_Text_add_84 rfl ?_
      refine EV_callT (as := [vL y1, vI x4]) (st := [vI ((tx.1 0) + x4), vR 2]) d_Text_add_86 k_343 k_344 k_2 k_345 pd_55 ⟨by decide, by decide, Nat.le_of_ble_eq_true rfl⟩ rfl (ct_Text_letterOf H (fun r_1 H => ?_))
      obtain ⟨hi, H⟩ := H
      obtain ⟨hch, H⟩ := H
      refine EV_cast d_Text_add_89 shC_2 hi hch shC_2_s ?_
      obtain ⟨hr, H⟩ := H
      refine EV_iinc (lv' := [(0, vR 1), (1, vL y1), (3, vI x3), (4, vI (x4 + 1))]) 3 [1, 2, 3, 0] d_Text_add_90 rfl (by decide) hr rfl ?_
      refine EV_goto (tgt := 66) d_Text_add_93 (by decide) ?_
      exact ih y1 x3 (x4 + 1) (sA tx 0 ((tx.1 0) + x4) r_1) H
theorem ct_Text_add_49 {l : Launch} {o1 o2 o3 o4 o5 o6 o7 o8 o9 o10 : Ob} {K : Int → Ob → Prop} {K' : Option AV → List AC → Prop} {y1 : Nat} {x3 : Int} {tx : Ob} (H : Text_add_49 y1 x3 tx K) (hK : ∀ (r : Int) (tx' : Ob), K r tx' → K' (some (vI r)) (shC tx' o1 o2 o3 o4 o5 o6 o7 o8 o9 o10)) : EV l prog_10_method_2_code "PrunedSearch$Text" 5 (some .boolean) 4 49 [(0, vR 1), (1, vL y1), (3, vI x3)] [] (shC tx o1 o2 o3 o4 o5 o6 o7 o8 o9 o10) K' := by
  refine EV_aload_n 0 d_Text_add_49 rfl rfl ?_
  refine EV_get (j := 1) d_Text_add_50 shC_1 rfl fI1 (by decide) k_35 rfl ?_
  refine EV_iload_n 2 d_Text_add_53 rfl rfl ?_
  obtain ⟨hr, H⟩ := H
  refine EV_iadd d_Text_add_54 hr ?_
  refine EV_sipush d_Text_add_55 (by decide +kernel) ⟨by decide, by decide⟩ ?_
  refine EV_icmp_le (tgt := 63) d_Text_add_58 (by decide) (fun hc => ?_) (fun hc => ?_)
  · have H := H.1 hc
    refine EV_iconst d_Text_add_63 ⟨by decide, by decide⟩ ?_
    refine EV_istore (lv' := [(0, vR 1), (1, vL y1), (3, vI x3), (4, vI 0)]) [1, 2, 3, 0] d_Text_add_64 (by decide) rfl ?_
    obtain ⟨n, H⟩ := H
    exact ct_Text_add_66 hK n y1 x3 0 tx H
  · have H := H.2 hc
    refine EV_iconst d_Text_add_61 ⟨by decide, by decide⟩ ?_
    exact EV_iret d_Text_add_62 rfl (nw_bool (by decide)) (hK _ _ H)
theorem ct_Text_add_43 {l : Launch} {o1 o2 o3 o4 o5 o6 o7 o8 o9 o10 : Ob} {K : Int → Ob → Prop} {K' : Option AV → List AC → Prop} {L2 : Nat → Int → Ob → Prop} {y1 : Nat} {x3 : Int} {tx : Ob} (hL2 : ∀ (y1 : Nat) (x3 : Int) (tx : Ob), L2 y1 x3 tx → EV l prog_10_method_2_code "PrunedSearch$Text" 5 (some .boolean) 4 2 [(0, vR 1), (1, vL y1), (3, vI x3)] [] (shC tx o1 o2 o3 o4 o5 o6 o7 o8 o9 o10) K') (H : Text_add_43 L2 y1 x3 tx K) (hK : ∀ (r : Int) (tx' : Ob), K r tx' → K' (some (vI r)) (shC tx' o1 o2 o3 o4 o5 o6 o7 o8 o9 o10)) : EV l prog_10_method_2_code "PrunedSearch$Text" 5 (some .boolean) 4 43 [(0, vR 1), (1, vL y1), (3, vI x3)] [] (shC tx o1 o2 o3 o4 o5 o6 o7 o8 o9 o10) K' := by
  obtain ⟨hr, H⟩ := H
  refine EV_iinc (lv' := [(0, vR 1), (1, vL y1), (3, vI (x3 + 1))]) 2 [1, 2, 0] d_Text_add_43 rfl (by decide) hr rfl ?_
  refine EV_goto (tgt := 2) d_Text_add_46 (by decide) ?_
  exact hL2 y1 (x3 + 1) tx H
theorem ct_Text_add_2 {l : Launch} {o1 o2 o3 o4 o5 o6 o7 o8 o9 o10 : Ob} {K : Int → Ob → Prop} {K' : Option AV → List AC → Prop} (hK : ∀ (r : Int) (tx' : Ob), K r tx' → K' (some (vI r)) (shC tx' o1 o2 o3 o4 o5 o6 o7 o8 o9 o10)) : ∀ (n : Nat) (y1 : Nat) (x3 : Int) (tx : Ob), Text_add_2 n y1 x3 tx K → EV l prog_10_method_2_code "PrunedSearch$Text" 5 (some .boolean) 4 2 [(0, vR 1), (1, vL y1), (3, vI x3)] [] (shC tx o1 o2 o3 o4 o5 o6 o7 o8 o9 o10) K' := by
  intro n
  induction n with
  | zero =>
    intro y1 x3 tx H
    exact H.elim
  | succ n ih =>
    intro y1 x3 tx H
    refine EV_iload_n 2 d_Text_add_2 rfl rfl ?_
    refine EV_bipush d_Text_add_3 (by decide +kernel) ⟨by decide, by decide⟩ ?_
    refine EV_icmp_ge (tgt := 49) d_Text_add_5 (by decide) (fun hc => ?_) (fun hc => ?_)
    · have H := H.1 hc
      exact ct_Text_add_49 H hK
    · have H := H.2 hc
      refine EV_lload_n 1 d_Text_add_8 rfl rfl ?_
      refine EV_iload_n 2 d_Text_add_9 rfl rfl ?_
      refine EV_callT (as := [vL y1, vI x3]) (st := []) d_Text_add_10 k_343 k_344 k_2 k_345 pd_55 ⟨by decide, by decide, Nat.le_of_ble_eq_true rfl⟩ rfl (ct_Text_letterOf H (fun r_2 H => ?_))
      refine EV_if_eq (tgt := 49) d_Text_add_13 (by decide) (fun hc => ?_) (fun hc => ?_)
      · have H := H.1 hc
        exact ct_Text_add_49 H hK
      · have H := H.2 hc
        refine EV_lload_n 1 d_Text_add_16 rfl rfl ?_
        refine EV_iload_n 2 d_Text_add_17 rfl rfl ?_
        refine EV_callT (as := [vL y1, vI x3]) (st := []) d_Text_add_18 k_343 k_344 k_2 k_345 pd_55 ⟨by decide, by decide, Nat.le_of_ble_eq_true rfl⟩ rfl (ct_Text_letterOf H (fun r_3 H => ?_))
        refine EV_istore (lv' := [(0, vR 1), (1, vL y1), (3, vI x3), (4, vI r_3)]) [1, 2, 3, 0] d_Text_add_21 (by decide) rfl ?_
        refine EV_iload 3 d_Text_add_23 rfl ?_
        refine EV_callN (as := [vI r_3]) (st := []) d_Text_add_25 k_347 k_348 k_1 k_349 pd_57 ⟨by decide, by decide, Nat.le_of_ble_eq_true rfl⟩ rfl (ct_P_isWordLetter H (fun r_4 H => ?_))
        refine EV_if_ne (tgt := 43) d_Text_add_28 (by decide) (fun hc => ?_) (fun hc => ?_)
        · have H := H.1 hc
          refine EV_lv (lv' := [(0, vR 1), (1, vL y1), (3, vI x3)]) [0, 1, 2] rfl ?_
          exact ct_Text_add_43 (fun y1 x3 tx' H => ih y1 x3 tx' H) H hK
        · have H := H.2 hc
          refine EV_ldcS rfl d_Text_add_31 ?_
          refine EV_iload 3 d_Text_add_33 rfl ?_
          refine EV_callX (as := [vI r_3]) (st := []) d_Text_add_35 k_354 k_355 k_356 k_13 k_357 rfl pd_56 ⟨by decide, by decide, Nat.le_of_ble_eq_true rfl⟩ rfl (ct_Str_indexOf H (fun r_5 H => ?_))
          refine EV_if_ge (tgt := 43) d_Text_add_38 (by decide) (fun hc => ?_) (fun hc => ?_)
          · have H := H.1 hc
            refine EV_lv (lv' := [(0, vR 1), (1, vL y1), (3, vI x3)]) [0, 1, 2] rfl ?_
            exact ct_Text_add_43 (fun y1 x3 tx' H => ih y1 x3 tx' H) H hK
          · have H := H.2 hc
            refine EV_iconst d_Text_add_41 ⟨by decide, by decide⟩ ?_
            exact EV_iret d_Text_add_42 rfl (nw_bool (by decide)) (hK _ _ H)
theorem ct_Text_add {l : Launch} {tx o1 o2 o3 o4 o5 o6 o7 o8 o9 o10 : Ob} {y1 : Nat} {K : Int → Ob → Prop} {K' : Option AV → List AC → Prop} (H : wp_Text_add y1 tx K) (hK : ∀ (r : Int) (tx' : Ob), K r tx' → K' (some (vI r)) (shC tx' o1 o2 o3 o4 o5 o6 o7 o8 o9 o10)) : MT l ⟨"PrunedSearch$Text", "add", "(J)Z"⟩ prog_10_method_2_code 5 (some .boolean) 4 [vR 1, vL y1] (shC tx o1 o2 o3 o4 o5 o6 o7 o8 o9 o10) K' := by
  unfold wp_Text_add at H
  refine MT_of (lv := [(0, vR 1), (1, vL y1)]) rfl rfl (Nat.le_of_ble_eq_true rfl) rfl ?_
  refine EV_iconst d_Text_add_0 ⟨by decide, by decide⟩ ?_
  refine EV_istore_n (lv' := [(0, vR 1), (1, vL y1), (3, vI 0)]) [1, 2, 0] d_Text_add_1 rfl (by decide) rfl ?_
  obtain ⟨n, H⟩ := H
  exact ct_Text_add_2 hK n y1 0 tx H
theorem ct_P_type {l : Launch} {tx o1 o2 o3 o4 o5 o6 o7 o8 o9 o10 : Ob} {y1 : Nat} {K : Int → Ob → Prop} {K' : Option AV → List AC → Prop} (H : wp_P_type y1 tx K) (hK : ∀ (r : Int) (tx' : Ob), K r tx' → K' (some (vI r)) (shC tx' o1 o2 o3 o4 o5 o6 o7 o8 o9 o10)) : MT l ⟨"PrunedSearch", "type", "(J)Z"⟩ prog_1_method_2_code 3 (some .boolean) 5 [vR 0, vL y1] (shC tx o1 o2 o3 o4 o5 o6 o7 o8 o9 o10) K' := by
  unfold wp_P_type at H
  refine MT_of (lv := [(0, vR 0), (1, vL y1)]) rfl rfl (Nat.le_of_ble_eq_true rfl) rfl ?_
  refine EV_aload_n 0 d_P_type_0 rfl rfl ?_
  refine EV_get (j := 0) d_P_type_1 shC_0 rfl fI0 (by decide) k_319 rfl ?_
  refine EV_lload_n 1 d_P_type_4 rfl rfl ?_
  refine EV_callV (as := [vL y1]) (st := []) d_P_type_5 k_339 k_340 k_341 k_2 k_342 shC_1 rfl pd_58 ⟨by decide, by decide, Nat.le_of_ble_eq_true rfl⟩ rfl (ct_Text_add H (fun r_2 tx_1 H => ?_))
  obtain ⟨hb, H⟩ := H
  exact EV_iret d_P_type_8 rfl (nw_bool hb) (hK _ _ H)
theorem ct_Cho_keepFirst {l : Launch} {o0 o1 o2 o3 o4 o5 o6 o7 ch o9 o10 : Ob} {x1 : Int} {K : Ob → Prop} {K' : Option AV → List AC → Prop} (H : wp_Cho_keepFirst x1 ch K) (hK : ∀ (ch' : Ob), K ch' → K' none (shC o0 o1 o2 o3 o4 o5 o6 o7 ch' o9 o10)) : MT l ⟨"PrunedSearch$Choices", "keepFirst", "(I)V"⟩ prog_2_method_4_code 2 none 1 [vR 31, vI x1] (shC o0 o1 o2 o3 o4 o5 o6 o7 ch o9 o10) K' := by
  unfold wp_Cho_keepFirst at H
  refine MT_of (lv := [(0, vR 31), (1, vI x1)]) rfl rfl (Nat.le_of_ble_eq_true rfl) rfl ?_
  refine EV_aload_n 0 d_Cho_keepFirst_0 rfl rfl ?_
  refine EV_aload_n 0 d_Cho_keepFirst_1 rfl rfl ?_
  refine EV_get (j := 6) d_Cho_keepFirst_2 shC_31 rfl fI8 (by decide) k_223 rfl ?_
  refine EV_iload_n 1 d_Cho_keepFirst_5 rfl rfl ?_
  refine EV_iconst d_Cho_keepFirst_6 ⟨by decide, by decide⟩ ?_
  refine EV_mmax (st := [vI (ch.1 0), vR 31]) d_Cho_keepFirst_7 k_453 k_383 k_15 k_384 ⟨by decide, Nat.le_of_ble_eq_true rfl⟩ ?_
  refine EV_mmin (st := [vR 31]) d_Cho_keepFirst_10 k_454 k_386 k_15 k_387 ⟨by decide, Nat.le_of_ble_eq_true rfl⟩ ?_
  refine EV_put (j := 6) d_Cho_keepFirst_13 shC_31 rfl fI8 fO8 fN8 (by decide) k_223 rfl rfl (fun ad => nf_int ad _) (Nat.le_of_ble_eq_true rfl) shC_31_6 ?_
  exact EV_vret d_Cho_keepFirst_16 rfl (hK _ H)
theorem ct_Goa_goBack {l : Launch} {o0 o1 o2 o3 o4 o5 o6 go o8 o9 o10 : Ob} {x1 : Int} {x2 : Int} {K : Ob → Prop} {K' : Option AV → List AC → Prop} (H : wp_Goa_goBack x1 x2 go K) (hK : ∀ (go' : Ob), K go' → K' none (shC o0 o1 o2 o3 o4 o5 o6 go' o8 o9 o10)) : MT l ⟨"PrunedSearch$Goals", "goBack", "(II)V"⟩ prog_5_method_4_code 3 none 0 [vR 27, vI x1, vI x2] (shC o0 o1 o2 o3 o4 o5 o6 go o8 o9 o10) K' := by
  unfold wp_Goa_goBack at H
  refine MT_of (lv := [(0, vR 27), (1, vI x1), (2, vI x2)]) rfl rfl (Nat.le_of_ble_eq_true rfl) rfl ?_
  refine EV_aload_n 0 d_Goa_goBack_0 rfl rfl ?_
  refine EV_iload_n 1 d_Goa_goBack_1 rfl rfl ?_
  refine EV_put (j := 4) d_Goa_goBack_2 shC_27 rfl fI7 fO7 fN7 (by decide) k_199 rfl rfl (fun ad => nf_int ad _) (Nat.le_of_ble_eq_true rfl) shC_27_4 ?_
  refine EV_aload_n 0 d_Goa_goBack_5 rfl rfl ?_
  refine EV_iload_n 2 d_Goa_goBack_6 rfl rfl ?_
  refine EV_put (j := 3) d_Goa_goBack_7 shC_27 rfl fI7 fO7 fN7 (by decide) k_198 rfl rfl (fun ad => nf_int ad _) (Nat.le_of_ble_eq_true rfl) shC_27_3 ?_
  exact EV_vret d_Goa_goBack_10 rfl (hK _ H)
theorem ct_Ter_goBack_43 {l : Launch} {o0 o1 o2 o3 o4 o5 o7 o8 o9 o10 : Ob} {K : Ob → Prop} {K' : Option AV → List AC → Prop} {x1 : Int} {te : Ob} (H : Ter_goBack_43 x1 te K) (hK : ∀ (te' : Ob), K te' → K' none (shC o0 o1 o2 o3 o4 o5 te' o7 o8 o9 o10)) : EV l prog_9_method_4_code "PrunedSearch$Terms" 3 none 0 43 [(0, vR 19), (1, vI x1)] [] (shC o0 o1 o2 o3 o4 o5 te o7 o8 o9 o10) K' := by
  refine EV_aload_n 0 d_Ter_goBack_43 rfl rfl ?_
  refine EV_iload_n 1 d_Ter_goBack_44 rfl rfl ?_
  refine EV_put (j := 7) d_Ter_goBack_45 shC_19 rfl fI6 fO6 fN6 (by decide) k_162 rfl rfl (fun ad => nf_int ad _) (Nat.le_of_ble_eq_true rfl) shC_19_7 ?_
  exact EV_vret d_Ter_goBack_48 rfl (hK _ H)
theorem ct_Ter_goBack_0 {l : Launch} {o0 o1 o2 o3 o4 o5 o7 o8 o9 o10 : Ob} {K : Ob → Prop} {K' : Option AV → List AC → Prop} (hK : ∀ (te' : Ob), K te' → K' none (shC o0 o1 o2 o3 o4 o5 te' o7 o8 o9 o10)) : ∀ (n : Nat) (x1 : Int) (x2 : Int) (te : Ob), Ter_goBack_0 n x1 x2 te K → EV l prog_9_method_4_code "PrunedSearch$Terms" 3 none 0 0 [(0, vR 19), (1, vI x1), (2, vI x2)] [] (shC o0 o1 o2 o3 o4 o5 te o7 o8 o9 o10) K' := by
  intro n
  induction n with
  | zero =>
    intro x1 x2 te H
    exact H.elim
  | succ n ih =>
    intro x1 x2 te H
    refine EV_aload_n 0 d_Ter_goBack_0 rfl rfl ?_
    refine EV_get (j := 8) d_Ter_goBack_1 shC_19 rfl fI6 (by decide) k_163 rfl ?_
    refine EV_iload_n 2 d_Ter_goBack_4 rfl rfl ?_
    refine EV_icmp_le (tgt := 43) d_Ter_goBack_5 (by decide) (fun hc => ?_) (fun hc => ?_)
    · have H := H.1 hc
      refine EV_lv (lv' := [(0, vR 19), (1, vI x1)]) [0, 1] rfl ?_
      exact ct_Ter_goBack_43 H hK
    · have H := H.2 hc
      refine EV_aload_n 0 d_Ter_goBack_8 rfl rfl ?_
      refine EV_get (j := 8) d_Ter_goBack_9 shC_19 rfl fI6 (by decide) k_163 rfl ?_
      refine EV_if_le (tgt := 43) d_Ter_goBack_12 (by decide) (fun hc => ?_) (fun hc => ?_)
      · have H := H.1 hc
        refine EV_lv (lv' := [(0, vR 19), (1, vI x1)]) [0, 1] rfl ?_
        exact ct_Ter_goBack_43 H hK
      · have H := H.2 hc
        refine EV_aload_n 0 d_Ter_goBack_15 rfl rfl ?_
        refine EV_dup d_Ter_goBack_16 rfl ?_
        refine EV_get (j := 8) d_Ter_goBack_17 shC_19 rfl fI6 (by decide) k_163 rfl ?_
        refine EV_iconst d_Ter_goBack_20 ⟨by decide, by decide⟩ ?_
        obtain ⟨hr, H⟩ := H
        refine EV_isub d_Ter_goBack_21 hr ?_
        refine EV_put (j := 8) d_Ter_goBack_22 shC_19 rfl fI6 fO6 fN6 (by decide) k_163 rfl rfl (fun ad => nf_int ad _) (Nat.le_of_ble_eq_true rfl) shC_19_8 ?_
        refine EV_aload_n 0 d_Ter_goBack_25 rfl rfl ?_
        refine EV_get (j := 2) d_Ter_goBack_26 shC_19 rfl fI6 (by decide) k_157 rfl ?_
        refine EV_aload_n 0 d_Ter_goBack_29 rfl rfl ?_
        refine EV_get (j := 4) d_Ter_goBack_30 shC_19 rfl fI6 (by decide) k_159 rfl ?_
        refine EV_aload_n 0 d_Ter_goBack_33 rfl rfl ?_
        refine EV_get (j := 8) d_Ter_goBack_34 shC_19 rfl fI6 (by decide) k_163 rfl ?_
        obtain ⟨hi, H⟩ := H
        refine EV_iald d_Ter_goBack_37 shC_24 hi ?_
        refine EV_iconst d_Ter_goBack_38 ⟨by decide, by decide⟩ ?_
        obtain ⟨hi, H⟩ := H
        refine EV_iast d_Ter_goBack_39 shC_22 hi shC_22_s ?_
        refine EV_goto (tgt := 0) d_Ter_goBack_40 (by decide) ?_
        exact ih x1 x2 (sA (sI te 1 ((te.1 1) - 1)) 2 (te.2.1 4 ((te.1 1) - 1)) (-1)) H
theorem ct_Ter_goBack {l : Launch} {o0 o1 o2 o3 o4 o5 te o7 o8 o9 o10 : Ob} {x1 : Int} {x2 : Int} {K : Ob → Prop} {K' : Option AV → List AC → Prop} (H : wp_Ter_goBack x1 x2 te K) (hK : ∀ (te' : Ob), K te' → K' none (shC o0 o1 o2 o3 o4 o5 te' o7 o8 o9 o10)) : MT l ⟨"PrunedSearch$Terms", "goBack", "(II)V"⟩ prog_9_method_4_code 3 none 0 [vR 19, vI x1, vI x2] (shC o0 o1 o2 o3 o4 o5 te o7 o8 o9 o10) K' := by
  unfold wp_Ter_goBack at H
  refine MT_of (lv := [(0, vR 19), (1, vI x1), (2, vI x2)]) rfl rfl (Nat.le_of_ble_eq_true rfl) rfl ?_
  obtain ⟨n, H⟩ := H
  exact ct_Ter_goBack_0 hK n x1 x2 te H
theorem ct_Wri_clear {l : Launch} {o0 o1 o2 o3 o4 o5 o6 o7 o8 o9 wr : Ob} {K : Ob → Prop} {K' : Option AV → List AC → Prop} (H : wp_Wri_clear wr K) (hK : ∀ (wr' : Ob), K wr' → K' none (shC o0 o1 o2 o3 o4 o5 o6 o7 o8 o9 wr')) : MT l ⟨"PrunedSearch$TermWriter", "clear", "()V"⟩ prog_8_method_2_code 1 none 0 [vR 40] (shC o0 o1 o2 o3 o4 o5 o6 o7 o8 o9 wr) K' := by
  unfold wp_Wri_clear at H
  refine MT_of (lv := [(0, vR 40)]) rfl rfl (Nat.le_of_ble_eq_true rfl) rfl ?_
  refine EV_aload_n 0 d_Wri_clear_0 rfl rfl ?_
  refine EV_iconst d_Wri_clear_1 ⟨by decide, by decide⟩ ?_
  refine EV_put (j := 6) d_Wri_clear_2 shC_40 rfl fI10 fO10 fN10 (by decide) k_251 rfl rfl (fun ad => nf_int ad _) (Nat.le_of_ble_eq_true rfl) shC_40_6 ?_
  refine EV_aload_n 0 d_Wri_clear_5 rfl rfl ?_
  refine EV_iconst d_Wri_clear_6 ⟨by decide, by decide⟩ ?_
  refine EV_put (j := 7) d_Wri_clear_7 shC_40 rfl fI10 fO10 fN10 (by decide) k_252 rfl rfl (fun ad => nf_int ad _) (Nat.le_of_ble_eq_true rfl) shC_40_7 ?_
  refine EV_aload_n 0 d_Wri_clear_10 rfl rfl ?_
  refine EV_iconst d_Wri_clear_11 ⟨by decide, by decide⟩ ?_
  refine EV_put (j := 9) d_Wri_clear_12 shC_40 rfl fI10 fO10 fN10 (by decide) k_254 rfl rfl (fun ad => nf_bool ad (by decide)) (Nat.le_of_ble_eq_true rfl) shC_40_9 ?_
  exact EV_vret d_Wri_clear_15 rfl (hK _ H)
theorem ct_Sea_end {l : Launch} {o0 o1 o2 o3 o4 o5 te go ch se wr : Ob} {K : Ob → Ob → Ob → Ob → Ob → Prop} {K' : Option AV → List AC → Prop} (H : wp_Sea_end te go ch se wr K) (hK : ∀ (te' go' ch' se' wr' : Ob), K te' go' ch' se' wr' → K' none (shC o0 o1 o2 o3 o4 o5 te' go' ch' se' wr')) : MT l ⟨"PrunedSearch$Search", "end", "()V"⟩ prog_7_method_2_code 1 none 2 [vR 38] (shC o0 o1 o2 o3 o4 o5 te go ch se wr) K' := by
  unfold wp_Sea_end at H
  refine MT_of (lv := [(0, vR 38)]) rfl rfl (Nat.le_of_ble_eq_true rfl) rfl ?_
  refine EV_aload_n 0 d_Sea_end_0 rfl rfl ?_
  refine EV_iconst d_Sea_end_1 ⟨by decide, by decide⟩ ?_
  refine EV_put (j := 8) d_Sea_end_2 shC_38 rfl fI9 fO9 fN9 (by decide) k_284 rfl rfl (fun ad => nf_int ad _) (Nat.le_of_ble_eq_true rfl) shC_38_8 ?_
  refine EV_aload_n 0 d_Sea_end_5 rfl rfl ?_
  refine EV_iconst d_Sea_end_6 ⟨by decide, by decide⟩ ?_
  refine EV_put (j := 9) d_Sea_end_7 shC_38 rfl fI9 fO9 fN9 (by decide) k_285 rfl rfl (fun ad => nf_bool ad (by decide)) (Nat.le_of_ble_eq_true rfl) shC_38_9 ?_
  refine EV_aload_n 0 d_Sea_end_10 rfl rfl ?_
  refine EV_iconst d_Sea_end_11 ⟨by decide, by decide⟩ ?_
  refine EV_put (j := 10) d_Sea_end_12 shC_38 rfl fI9 fO9 fN9 (by decide) k_286 rfl rfl (fun ad => nf_int ad _) (Nat.le_of_ble_eq_true rfl) shC_38_10 ?_
  refine EV_aload_n 0 d_Sea_end_15 rfl rfl ?_
  refine EV_iconst d_Sea_end_16 ⟨by decide, by decide⟩ ?_
  refine EV_put (j := 11) d_Sea_end_17 shC_38 rfl fI9 fO9 fN9 (by decide) k_287 rfl rfl (fun ad => nf_int ad _) (Nat.le_of_ble_eq_true rfl) shC_38_11 ?_
  refine EV_aload_n 0 d_Sea_end_20 rfl rfl ?_
  refine EV_iconst d_Sea_end_21 ⟨by decide, by decide⟩ ?_
  refine EV_put (j := 7) d_Sea_end_22 shC_38 rfl fI9 fO9 fN9 (by decide) k_283 rfl rfl (fun ad => nf_int ad _) (Nat.le_of_ble_eq_true rfl) shC_38_7 ?_
  refine EV_aload_n 0 d_Sea_end_25 rfl rfl ?_
  refine EV_get (j := 4) d_Sea_end_26 shC_38 rfl fI9 (by decide) k_280 rfl ?_
  refine EV_iconst d_Sea_end_29 ⟨by decide, by decide⟩ ?_
  refine EV_callV (as := [vI 0]) (st := []) d_Sea_end_30 k_449 k_450 k_451 k_10 k_452 shC_31 rfl pd_62 ⟨by decide, by decide, Nat.le_of_ble_eq_true rfl⟩ rfl (ct_Cho_keepFirst H (fun ch_1 H => ?_))
  refine EV_aload_n 0 d_Sea_end_33 rfl rfl ?_
  refine EV_get (j := 3) d_Sea_end_34 shC_38 rfl fI9 (by decide) k_279 rfl ?_
  refine EV_iconst d_Sea_end_37 ⟨by decide, by decide⟩ ?_
  refine EV_iconst d_Sea_end_38 ⟨by decide, by decide⟩ ?_
  refine EV_callV (as := [vI (-1), vI 0]) (st := []) d_Sea_end_39 k_455 k_456 k_457 k_9 k_458 shC_27 rfl pd_61 ⟨by decide, by decide, Nat.le_of_ble_eq_true rfl⟩ rfl (ct_Goa_goBack H (fun go_2 H => ?_))
  refine EV_aload_n 0 d_Sea_end_42 rfl rfl ?_
  refine EV_get (j := 2) d_Sea_end_43 shC_38 rfl fI9 (by decide) k_278 rfl ?_
  refine EV_iconst d_Sea_end_46 ⟨by decide, by decide⟩ ?_
  refine EV_iconst d_Sea_end_47 ⟨by decide, by decide⟩ ?_
  refine EV_callV (as := [vI 0, vI 0]) (st := []) d_Sea_end_48 k_459 k_460 k_461 k_8 k_462 shC_19 rfl pd_60 ⟨by decide, by decide, Nat.le_of_ble_eq_true rfl⟩ rfl (ct_Ter_goBack H (fun te_3 H => ?_))
  refine EV_aload_n 0 d_Sea_end_51 rfl rfl ?_
  refine EV_get (j := 5) d_Sea_end_52 shC_38 rfl fI9 (by decide) k_281 rfl ?_
  refine EV_callV (as := []) (st := []) d_Sea_end_55 k_463 k_464 k_465 k_11 k_466 shC_40 rfl pd_59 ⟨by decide, by decide, Nat.le_of_ble_eq_true rfl⟩ rfl (ct_Wri_clear H (fun wr_4 H => ?_))
  exact EV_vret d_Sea_end_58 rfl (hK _ _ _ _ _ H)
theorem ct_Cod_partCount_p {l : Launch} {o0 o1 o2 pr o4 o5 o6 o7 o8 o9 o10 : Ob} {K : Int → Prop} {K' : Option AV → List AC → Prop} (H : wp_Cod_partCount_p pr K) (hK : ∀ (r : Int), K r → K' (some (vI r)) (shC o0 o1 o2 pr o4 o5 o6 o7 o8 o9 o10)) : MT l ⟨"PrunedSearch$Code", "partCount", "()I"⟩ prog_4_method_8_code 1 (some .int) 0 [vR 9] (shC o0 o1 o2 pr o4 o5 o6 o7 o8 o9 o10) K' := by
  unfold wp_Cod_partCount_p at H
  refine MT_of (lv := [(0, vR 9)]) rfl rfl (Nat.le_of_ble_eq_true rfl) rfl ?_
  refine EV_aload_n 0 d_Cod_partCount_p_0 rfl rfl ?_
  refine EV_get (j := 4) d_Cod_partCount_p_1 shC_9 rfl fI4 (by decide) k_72 rfl ?_
  exact EV_iret d_Cod_partCount_p_4 rfl (nw_int _) (hK _ H)
theorem ct_Text_size {l : Launch} {tx o1 o2 o3 o4 o5 o6 o7 o8 o9 o10 : Ob} {K : Int → Prop} {K' : Option AV → List AC → Prop} (H : wp_Text_size tx K) (hK : ∀ (r : Int), K r → K' (some (vI r)) (shC tx o1 o2 o3 o4 o5 o6 o7 o8 o9 o10)) : MT l ⟨"PrunedSearch$Text", "size", "()I"⟩ prog_10_method_5_code 1 (some .int) 0 [vR 1] (shC tx o1 o2 o3 o4 o5 o6 o7 o8 o9 o10) K' := by
  unfold wp_Text_size at H
  refine MT_of (lv := [(0, vR 1)]) rfl rfl (Nat.le_of_ble_eq_true rfl) rfl ?_
  refine EV_aload_n 0 d_Text_size_0 rfl rfl ?_
  refine EV_get (j := 1) d_Text_size_1 shC_1 rfl fI1 (by decide) k_35 rfl ?_
  exact EV_iret d_Text_size_4 rfl (nw_int _) (hK _ H)
theorem ct_Text_at {l : Launch} {tx o1 o2 o3 o4 o5 o6 o7 o8 o9 o10 : Ob} {x1 : Int} {K : Int → Prop} {K' : Option AV → List AC → Prop} (H : wp_Text_at x1 tx K) (hK : ∀ (r : Int), K r → K' (some (vI r)) (shC tx o1 o2 o3 o4 o5 o6 o7 o8 o9 o10)) : MT l ⟨"PrunedSearch$Text", "at", "(I)C"⟩ prog_10_method_6_code 2 (some .char) 0 [vR 1, vI x1] (shC tx o1 o2 o3 o4 o5 o6 o7 o8 o9 o10) K' := by
  unfold wp_Text_at at H
  refine MT_of (lv := [(0, vR 1), (1, vI x1)]) rfl rfl (Nat.le_of_ble_eq_true rfl) rfl ?_
  refine EV_iload_n 1 d_Text_at_0 rfl rfl ?_
  refine EV_if_lt (tgt := 21) d_Text_at_1 (by decide) (fun hc => ?_) (fun hc => ?_)
  · have H := H.1 hc
    refine EV_bipush d_Text_at_21 (by decide +kernel) ⟨by decide, by decide⟩ ?_
    exact EV_iret d_Text_at_23 rfl (nw_char ⟨by decide, by decide⟩) (hK _ H)
  · have H := H.2 hc
    refine EV_iload_n 1 d_Text_at_4 rfl rfl ?_
    refine EV_aload_n 0 d_Text_at_5 rfl rfl ?_
    refine EV_get (j := 1) d_Text_at_6 shC_1 rfl fI1 (by decide) k_35 rfl ?_
    refine EV_icmp_ge (tgt := 21) d_Text_at_9 (by decide) (fun hc => ?_) (fun hc => ?_)
    · have H := H.1 hc
      refine EV_bipush d_Text_at_21 (by decide +kernel) ⟨by decide, by decide⟩ ?_
      exact EV_iret d_Text_at_23 rfl (nw_char ⟨by decide, by decide⟩) (hK _ H)
    · have H := H.2 hc
      refine EV_aload_n 0 d_Text_at_12 rfl rfl ?_
      refine EV_get (j := 0) d_Text_at_13 shC_1 rfl fI1 (by decide) k_34 rfl ?_
      refine EV_iload_n 1 d_Text_at_16 rfl rfl ?_
      obtain ⟨hi, H⟩ := H
      refine EV_cald d_Text_at_17 shC_2 hi ?_
      refine EV_goto (tgt := 23) d_Text_at_18 (by decide) ?_
      obtain ⟨hb, H⟩ := H
      exact EV_iret d_Text_at_23 rfl (nw_char hb) (hK _ H)
theorem ct_Tok_lengthenWord {l : Launch} {o0 tk o2 o3 o4 o5 o6 o7 o8 o9 o10 : Ob} {x1 : Int} {x2 : Int} {K : Ob → Prop} {K' : Option AV → List AC → Prop} (H : wp_Tok_lengthenWord x1 x2 tk K) (hK : ∀ (tk' : Ob), K tk' → K' none (shC o0 tk' o2 o3 o4 o5 o6 o7 o8 o9 o10)) : MT l ⟨"PrunedSearch$Tokens", "lengthenWord", "(CI)V"⟩ prog_11_method_4_code 5 none 0 [vR 3, vI x1, vI x2] (shC o0 tk o2 o3 o4 o5 o6 o7 o8 o9 o10) K' := by
  unfold wp_Tok_lengthenWord at H
  refine MT_of (lv := [(0, vR 3), (1, vI x1), (2, vI x2)]) rfl rfl (Nat.le_of_ble_eq_true rfl) rfl ?_
  refine EV_aload_n 0 d_Tok_lengthenWord_0 rfl rfl ?_
  refine EV_get (j := 3) d_Tok_lengthenWord_1 shC_3 rfl fI2 (by decide) k_100 rfl ?_
  refine EV_iconst d_Tok_lengthenWord_4 ⟨by decide, by decide⟩ ?_
  obtain ⟨hr, H⟩ := H
  refine EV_isub d_Tok_lengthenWord_5 hr ?_
  refine EV_istore_n (lv' := [(0, vR 3), (1, vI x1), (2, vI x2), (3, vI ((tk.1 0) - 1))]) [1, 2, 3, 0] d_Tok_lengthenWord_6 rfl (by decide) rfl ?_
  refine EV_iload_n 3 d_Tok_lengthenWord_7 rfl rfl ?_
  refine EV_if_ge (tgt := 12) d_Tok_lengthenWord_8 (by decide) (fun hc => ?_) (fun hc => ?_)
  · have H := H.1 hc
    refine EV_iload_n 2 d_Tok_lengthenWord_12 rfl rfl ?_
    refine EV_aload_n 0 d_Tok_lengthenWord_13 rfl rfl ?_
    refine EV_get (j := 1) d_Tok_lengthenWord_14 shC_3 rfl fI2 (by decide) k_98 rfl ?_
    refine EV_iload_n 3 d_Tok_lengthenWord_17 rfl rfl ?_
    obtain ⟨hi, H⟩ := H
    refine EV_iald d_Tok_lengthenWord_18 shC_5 hi ?_
    obtain ⟨hr, H⟩ := H
    refine EV_isub d_Tok_lengthenWord_19 hr ?_
    refine EV_istore (lv' := [(0, vR 3), (1, vI x1), (2, vI x2), (3, vI ((tk.1 0) - 1)), (4, vI (x2 - (tk.2.1 1 ((tk.1 0) - 1))))]) [1, 2, 3, 4, 0] d_Tok_lengthenWord_20 (by decide) rfl ?_
    refine EV_iload 4 d_Tok_lengthenWord_22 rfl ?_
    refine EV_bipush d_Tok_lengthenWord_24 (by decide +kernel) ⟨by decide, by decide⟩ ?_
    refine EV_icmp_ge (tgt := 49) d_Tok_lengthenWord_26 (by decide) (fun hc => ?_) (fun hc => ?_)
    · have H := H.1 hc
      refine EV_aload_n 0 d_Tok_lengthenWord_49 rfl rfl ?_
      refine EV_get (j := 0) d_Tok_lengthenWord_50 shC_3 rfl fI2 (by decide) k_97 rfl ?_
      refine EV_iload_n 3 d_Tok_lengthenWord_53 rfl rfl ?_
      refine EV_bipush d_Tok_lengthenWord_54 (by decide +kernel) ⟨by decide, by decide⟩ ?_
      obtain ⟨hi, H⟩ := H
      obtain ⟨hch, H⟩ := H
      refine EV_cast d_Tok_lengthenWord_56 shC_4 hi hch shC_4_s ?_
      exact EV_vret d_Tok_lengthenWord_57 rfl (hK _ H)
    · have H := H.2 hc
      refine EV_aload_n 0 d_Tok_lengthenWord_29 rfl rfl ?_
      refine EV_get (j := 2) d_Tok_lengthenWord_30 shC_3 rfl fI2 (by decide) k_99 rfl ?_
      refine EV_iload_n 3 d_Tok_lengthenWord_33 rfl rfl ?_
      refine EV_dup2 d_Tok_lengthenWord_34 rfl rfl ?_
      obtain ⟨hi, H⟩ := H
      refine EV_lald d_Tok_lengthenWord_35 shC_6 hi ?_
      refine EV_iload_n 1 d_Tok_lengthenWord_36 rfl rfl ?_
      obtain ⟨h0, H⟩ := H
      refine EV_i2l d_Tok_lengthenWord_37 h0 ?_
      refine EV_bipush d_Tok_lengthenWord_38 (by decide +kernel) ⟨by decide, by decide⟩ ?_
      refine EV_iload 4 d_Tok_lengthenWord_40 rfl ?_
      obtain ⟨hr, H⟩ := H
      refine EV_imul d_Tok_lengthenWord_42 hr ?_
      obtain ⟨h1, h2, H⟩ := H
      refine EV_lshl d_Tok_lengthenWord_43 h1 h2 ?_
      refine EV_lor d_Tok_lengthenWord_44 ?_
      obtain ⟨hi, H⟩ := H
      refine EV_last d_Tok_lengthenWord_45 shC_6 hi shC_6_s ?_
      refine EV_goto (tgt := 57) d_Tok_lengthenWord_46 (by decide) ?_
      exact EV_vret d_Tok_lengthenWord_57 rfl (hK _ H)
  · have H := H.2 hc
    exact EV_vret d_Tok_lengthenWord_11 rfl (hK _ H)
theorem ct_Tok_put {l : Launch} {o0 tk o2 o3 o4 o5 o6 o7 o8 o9 o10 : Ob} {x1 : Int} {x2 : Int} {y3 : Nat} {K : Ob → Prop} {K' : Option AV → List AC → Prop} (H : wp_Tok_put x1 x2 y3 tk K) (hK : ∀ (tk' : Ob), K tk' → K' none (shC o0 tk' o2 o3 o4 o5 o6 o7 o8 o9 o10)) : MT l ⟨"PrunedSearch$Tokens", "put", "(CIJ)V"⟩ prog_11_method_3_code 5 none 0 [vR 3, vI x1, vI x2, vL y3] (shC o0 tk o2 o3 o4 o5 o6 o7 o8 o9 o10) K' := by
  unfold wp_Tok_put at H
  refine MT_of (lv := [(0, vR 3), (1, vI x1), (2, vI x2), (3, vL y3)]) rfl rfl (Nat.le_of_ble_eq_true rfl) rfl ?_
  refine EV_aload_n 0 d_Tok_put_0 rfl rfl ?_
  refine EV_get (j := 3) d_Tok_put_1 shC_3 rfl fI2 (by decide) k_100 rfl ?_
  refine EV_aload_n 0 d_Tok_put_4 rfl rfl ?_
  refine EV_get (j := 0) d_Tok_put_5 shC_3 rfl fI2 (by decide) k_97 rfl ?_
  refine EV_alen (t := 1) (by decide) d_Tok_put_8 shC_4 (by decide) ?_
  refine EV_icmp_ge (tgt := 52) d_Tok_put_9 (by decide) (fun hc => ?_) (fun hc => ?_)
  · have H := H.1 hc
    exact EV_vret d_Tok_put_52 rfl (hK _ H)
  · have H := H.2 hc
    refine EV_aload_n 0 d_Tok_put_12 rfl rfl ?_
    refine EV_get (j := 0) d_Tok_put_13 shC_3 rfl fI2 (by decide) k_97 rfl ?_
    refine EV_aload_n 0 d_Tok_put_16 rfl rfl ?_
    refine EV_get (j := 3) d_Tok_put_17 shC_3 rfl fI2 (by decide) k_100 rfl ?_
    refine EV_iload_n 1 d_Tok_put_20 rfl rfl ?_
    obtain ⟨hi, H⟩ := H
    obtain ⟨hch, H⟩ := H
    refine EV_cast d_Tok_put_21 shC_4 hi hch shC_4_s ?_
    refine EV_aload_n 0 d_Tok_put_22 rfl rfl ?_
    refine EV_get (j := 1) d_Tok_put_23 shC_3 rfl fI2 (by decide) k_98 rfl ?_
    refine EV_aload_n 0 d_Tok_put_26 rfl rfl ?_
    refine EV_get (j := 3) d_Tok_put_27 shC_3 rfl fI2 (by decide) k_100 rfl ?_
    refine EV_iload_n 2 d_Tok_put_30 rfl rfl ?_
    obtain ⟨hi, H⟩ := H
    refine EV_iast d_Tok_put_31 shC_5 hi shC_5_s ?_
    refine EV_aload_n 0 d_Tok_put_32 rfl rfl ?_
    refine EV_get (j := 2) d_Tok_put_33 shC_3 rfl fI2 (by decide) k_99 rfl ?_
    refine EV_aload_n 0 d_Tok_put_36 rfl rfl ?_
    refine EV_get (j := 3) d_Tok_put_37 shC_3 rfl fI2 (by decide) k_100 rfl ?_
    refine EV_lload_n 3 d_Tok_put_40 rfl rfl ?_
    obtain ⟨hi, H⟩ := H
    refine EV_last d_Tok_put_41 shC_6 hi shC_6_s ?_
    refine EV_aload_n 0 d_Tok_put_42 rfl rfl ?_
    refine EV_dup d_Tok_put_43 rfl ?_
    refine EV_get (j := 3) d_Tok_put_44 shC_3 rfl fI2 (by decide) k_100 rfl ?_
    refine EV_iconst d_Tok_put_47 ⟨by decide, by decide⟩ ?_
    obtain ⟨hr, H⟩ := H
    refine EV_iadd d_Tok_put_48 hr ?_
    refine EV_put (j := 3) d_Tok_put_49 shC_3 rfl fI2 fO2 fN2 (by decide) k_100 rfl rfl (fun ad => nf_int ad _) (Nat.le_of_ble_eq_true rfl) shC_3_3 ?_
    exact EV_vret d_Tok_put_52 rfl (hK _ H)
theorem ct_Tok_completeNeck {l : Launch} {o0 tk o2 o3 o4 o5 o6 o7 o8 o9 o10 : Ob} {K : Ob → Prop} {K' : Option AV → List AC → Prop} (H : wp_Tok_completeNeck tk K) (hK : ∀ (tk' : Ob), K tk' → K' none (shC o0 tk' o2 o3 o4 o5 o6 o7 o8 o9 o10)) : MT l ⟨"PrunedSearch$Tokens", "completeNeck", "()V"⟩ prog_11_method_5_code 1 none 0 [vR 3] (shC o0 tk o2 o3 o4 o5 o6 o7 o8 o9 o10) K' := by
  unfold wp_Tok_completeNeck at H
  refine MT_of (lv := [(0, vR 3)]) rfl rfl (Nat.le_of_ble_eq_true rfl) rfl ?_
  refine EV_aload_n 0 d_Tok_completeNeck_0 rfl rfl ?_
  refine EV_get (j := 3) d_Tok_completeNeck_1 shC_3 rfl fI2 (by decide) k_100 rfl ?_
  refine EV_if_le (tgt := 20) d_Tok_completeNeck_4 (by decide) (fun hc => ?_) (fun hc => ?_)
  · have H := H.1 hc
    exact EV_vret d_Tok_completeNeck_20 rfl (hK _ H)
  · have H := H.2 hc
    refine EV_aload_n 0 d_Tok_completeNeck_7 rfl rfl ?_
    refine EV_get (j := 0) d_Tok_completeNeck_8 shC_3 rfl fI2 (by decide) k_97 rfl ?_
    refine EV_aload_n 0 d_Tok_completeNeck_11 rfl rfl ?_
    refine EV_get (j := 3) d_Tok_completeNeck_12 shC_3 rfl fI2 (by decide) k_100 rfl ?_
    refine EV_iconst d_Tok_completeNeck_15 ⟨by decide, by decide⟩ ?_
    obtain ⟨hr, H⟩ := H
    refine EV_isub d_Tok_completeNeck_16 hr ?_
    refine EV_bipush d_Tok_completeNeck_17 (by decide +kernel) ⟨by decide, by decide⟩ ?_
    obtain ⟨hi, H⟩ := H
    obtain ⟨hch, H⟩ := H
    refine EV_cast d_Tok_completeNeck_19 shC_4 hi hch shC_4_s ?_
    exact EV_vret d_Tok_completeNeck_20 rfl (hK _ H)
theorem ct_Tok_scan_155 {l : Launch} {tx o2 o3 o4 o5 o6 o7 o8 o9 o10 : Ob} {K : Ob → Prop} {K' : Option AV → List AC → Prop} {tk : Ob} (H : Tok_scan_155 tx tk K) (hK : ∀ (tk' : Ob), K tk' → K' none (shC tx tk' o2 o3 o4 o5 o6 o7 o8 o9 o10)) : EV l prog_11_method_2_code "PrunedSearch$Tokens" 5 none 2 155 [(0, vR 3), (1, vR 1)] [] (shC tx tk o2 o3 o4 o5 o6 o7 o8 o9 o10) K' := by
  refine EV_aload_n 0 d_Tok_scan_155 rfl rfl ?_
  refine EV_bipush d_Tok_scan_156 (by decide +kernel) ⟨by decide, by decide⟩ ?_
  refine EV_aload_n 1 d_Tok_scan_158 rfl rfl ?_
  refine EV_callV (as := []) (st := [vI 32, vR 3]) d_Tok_scan_159 k_483 k_484 k_485 k_2 k_486 shC_1 rfl pd_64 ⟨by decide, by decide, Nat.le_of_ble_eq_true rfl⟩ rfl (ct_Text_size H (fun r_2 H => ?_))
  refine EV_lconst (v := 0) d_Tok_scan_162 rfl ?_
  refine EV_callV (as := [vI 32, vI r_2, vL 0]) (st := []) d_Tok_scan_163 k_497 k_499 kp_2 k_6 k_500 shC_3 rfl pd_63 ⟨by decide, by decide, Nat.le_of_ble_eq_true rfl⟩ rfl (ct_Tok_put H (fun tk_3 H => ?_))
  exact EV_vret d_Tok_scan_166 rfl (hK _ H)
theorem ct_Tok_scan_149 {l : Launch} {tx o2 o3 o4 o5 o6 o7 o8 o9 o10 : Ob} {K : Ob → Prop} {K' : Option AV → List AC → Prop} {L7 : Int → Ob → Prop} {x2 : Int} {tk : Ob} (hL7 : ∀ (x2 : Int) (tk : Ob), L7 x2 tk → EV l prog_11_method_2_code "PrunedSearch$Tokens" 5 none 2 7 [(0, vR 3), (1, vR 1), (2, vI x2)] [] (shC tx tk o2 o3 o4 o5 o6 o7 o8 o9 o10) K') (H : Tok_scan_149 L7 x2 tx tk K) (hK : ∀ (tk' : Ob), K tk' → K' none (shC tx tk' o2 o3 o4 o5 o6 o7 o8 o9 o10)) : EV l prog_11_method_2_code "PrunedSearch$Tokens" 5 none 2 149 [(0, vR 3), (1, vR 1), (2, vI x2)] [] (shC tx tk o2 o3 o4 o5 o6 o7 o8 o9 o10) K' := by
  obtain ⟨hr, H⟩ := H
  refine EV_iinc (lv' := [(0, vR 3), (1, vR 1), (2, vI (x2 + 1))]) 2 [1, 2, 0] d_Tok_scan_149 rfl (by decide) hr rfl ?_
  refine EV_goto (tgt := 7) d_Tok_scan_152 (by decide) ?_
  exact hL7 (x2 + 1) tk H
theorem ct_Tok_scan_123 {l : Launch} {tx o2 o3 o4 o5 o6 o7 o8 o9 o10 : Ob} {K : Ob → Prop} {K' : Option AV → List AC → Prop} {L7 : Int → Ob → Prop} {x2 : Int} {tk : Ob} (hL7 : ∀ (x2 : Int) (tk : Ob), L7 x2 tk → EV l prog_11_method_2_code "PrunedSearch$Tokens" 5 none 2 7 [(0, vR 3), (1, vR 1), (2, vI x2)] [] (shC tx tk o2 o3 o4 o5 o6 o7 o8 o9 o10) K') (H : Tok_scan_123 L7 x2 tx tk K) (hK : ∀ (tk' : Ob), K tk' → K' none (shC tx tk' o2 o3 o4 o5 o6 o7 o8 o9 o10)) : EV l prog_11_method_2_code "PrunedSearch$Tokens" 5 none 2 123 [(0, vR 3), (1, vR 1), (2, vI x2)] [] (shC tx tk o2 o3 o4 o5 o6 o7 o8 o9 o10) K' := by
  refine EV_aload_n 0 d_Tok_scan_123 rfl rfl ?_
  refine EV_bipush d_Tok_scan_124 (by decide +kernel) ⟨by decide, by decide⟩ ?_
  refine EV_iload_n 2 d_Tok_scan_126 rfl rfl ?_
  refine EV_lconst (v := 0) d_Tok_scan_127 rfl ?_
  refine EV_callV (as := [vI 63, vI x2, vL 0]) (st := []) d_Tok_scan_128 k_497 k_499 kp_2 k_6 k_500 shC_3 rfl pd_63 ⟨by decide, by decide, Nat.le_of_ble_eq_true rfl⟩ rfl (ct_Tok_put H (fun tk_8 H => ?_))
  refine EV_goto (tgt := 149) d_Tok_scan_131 (by decide) ?_
  exact ct_Tok_scan_149 hL7 H hK
theorem ct_Tok_scan_109 {l : Launch} {tx o2 o3 o4 o5 o6 o7 o8 o9 o10 : Ob} {K : Ob → Prop} {K' : Option AV → List AC → Prop} {L7 : Int → Ob → Prop} {x2 : Int} {x4 : Int} {tk : Ob} (hL7 : ∀ (x2 : Int) (tk : Ob), L7 x2 tk → EV l prog_11_method_2_code "PrunedSearch$Tokens" 5 none 2 7 [(0, vR 3), (1, vR 1), (2, vI x2)] [] (shC tx tk o2 o3 o4 o5 o6 o7 o8 o9 o10) K') (H : Tok_scan_109 L7 x2 x4 tx tk K) (hK : ∀ (tk' : Ob), K tk' → K' none (shC tx tk' o2 o3 o4 o5 o6 o7 o8 o9 o10)) : EV l prog_11_method_2_code "PrunedSearch$Tokens" 5 none 2 109 [(0, vR 3), (1, vR 1), (2, vI x2), (4, vI x4)] [] (shC tx tk o2 o3 o4 o5 o6 o7 o8 o9 o10) K' := by
  refine EV_iload 3 d_Tok_scan_109 rfl ?_
  refine EV_bipush d_Tok_scan_111 (by decide +kernel) ⟨by decide, by decide⟩ ?_
  refine EV_icmp_eq (tgt := 123) d_Tok_scan_113 (by decide) (fun hc => ?_) (fun hc => ?_)
  · have H := H.1 hc
    refine EV_lv (lv' := [(0, vR 3), (1, vR 1), (2, vI x2)]) [0, 1, 2] rfl ?_
    exact ct_Tok_scan_123 hL7 H hK
  · have H := H.2 hc
    refine EV_iload 3 d_Tok_scan_116 rfl ?_
    refine EV_bipush d_Tok_scan_118 (by decide +kernel) ⟨by decide, by decide⟩ ?_
    refine EV_icmp_ne (tgt := 134) d_Tok_scan_120 (by decide) (fun hc => ?_) (fun hc => ?_)
    · have H := H.1 hc
      refine EV_iload 3 d_Tok_scan_134 rfl ?_
      refine EV_bipush d_Tok_scan_136 (by decide +kernel) ⟨by decide, by decide⟩ ?_
      refine EV_icmp_eq (tgt := 149) d_Tok_scan_138 (by decide) (fun hc => ?_) (fun hc => ?_)
      · have H := H.1 hc
        refine EV_lv (lv' := [(0, vR 3), (1, vR 1), (2, vI x2)]) [0, 1, 2] rfl ?_
        exact ct_Tok_scan_149 hL7 H hK
      · have H := H.2 hc
        refine EV_aload_n 0 d_Tok_scan_141 rfl rfl ?_
        refine EV_iload 3 d_Tok_scan_142 rfl ?_
        refine EV_iload_n 2 d_Tok_scan_144 rfl rfl ?_
        refine EV_lconst (v := 0) d_Tok_scan_145 rfl ?_
        refine EV_callV (as := [vI x4, vI x2, vL 0]) (st := []) d_Tok_scan_146 k_497 k_499 kp_2 k_6 k_500 shC_3 rfl pd_63 ⟨by decide, by decide, Nat.le_of_ble_eq_true rfl⟩ rfl (ct_Tok_put H (fun tk_9 H => ?_))
        refine EV_lv (lv' := [(0, vR 3), (1, vR 1), (2, vI x2)]) [0, 1, 2] rfl ?_
        exact ct_Tok_scan_149 hL7 H hK
    · have H := H.2 hc
      refine EV_lv (lv' := [(0, vR 3), (1, vR 1), (2, vI x2)]) [0, 1, 2] rfl ?_
      exact ct_Tok_scan_123 hL7 H hK
theorem ct_Tok_scan_79 {l : Launch} {tx o2 o3 o4 o5 o6 o7 o8 o9 o10 : Ob} {K : Ob → Prop} {K' : Option AV → List AC → Prop} {L7 : Int → Ob → Prop} {x2 : Int} {x4 : Int} {s0 : Int} {tk : Ob} (hL7 : ∀ (x2 : Int) (tk : Ob), L7 x2 tk → EV l prog_11_method_2_code "PrunedSearch$Tokens" 5 none 2 7 [(0, vR 3), (1, vR 1), (2, vI x2)] [] (shC tx tk o2 o3 o4 o5 o6 o7 o8 o9 o10) K') (H : Tok_scan_79 L7 x2 x4 s0 tx tk K) (hK : ∀ (tk' : Ob), K tk' → K' none (shC tx tk' o2 o3 o4 o5 o6 o7 o8 o9 o10)) : EV l prog_11_method_2_code "PrunedSearch$Tokens" 5 none 2 79 [(0, vR 3), (1, vR 1), (2, vI x2), (4, vI x4)] [vI s0, vR 3] (shC tx tk o2 o3 o4 o5 o6 o7 o8 o9 o10) K' := by
  refine EV_iload_n 2 d_Tok_scan_79 rfl rfl ?_
  refine EV_iload 3 d_Tok_scan_80 rfl ?_
  obtain ⟨h0, H⟩ := H
  refine EV_i2l d_Tok_scan_82 h0 ?_
  refine EV_callV (as := [vI s0, vI x2, vL ((x4).toNat)]) (st := []) d_Tok_scan_83 k_497 k_499 kp_2 k_6 k_500 shC_3 rfl pd_63 ⟨by decide, by decide, Nat.le_of_ble_eq_true rfl⟩ rfl (ct_Tok_put H (fun tk_12 H => ?_))
  refine EV_goto (tgt := 149) d_Tok_scan_86 (by decide) ?_
  refine EV_lv (lv' := [(0, vR 3), (1, vR 1), (2, vI x2)]) [0, 1, 2] rfl ?_
  exact ct_Tok_scan_149 hL7 H hK
theorem ct_Tok_scan_55 {l : Launch} {tx o2 o3 o4 o5 o6 o7 o8 o9 o10 : Ob} {K : Ob → Prop} {K' : Option AV → List AC → Prop} {L7 : Int → Ob → Prop} {x2 : Int} {x3 : Int} {x4 : Int} {tk : Ob} (hL7 : ∀ (x2 : Int) (tk : Ob), L7 x2 tk → EV l prog_11_method_2_code "PrunedSearch$Tokens" 5 none 2 7 [(0, vR 3), (1, vR 1), (2, vI x2)] [] (shC tx tk o2 o3 o4 o5 o6 o7 o8 o9 o10) K') (H : Tok_scan_55 L7 x2 x3 x4 tx tk K) (hK : ∀ (tk' : Ob), K tk' → K' none (shC tx tk' o2 o3 o4 o5 o6 o7 o8 o9 o10)) : EV l prog_11_method_2_code "PrunedSearch$Tokens" 5 none 2 55 [(0, vR 3), (1, vR 1), (2, vI x2), (3, vI x3), (4, vI x4)] [] (shC tx tk o2 o3 o4 o5 o6 o7 o8 o9 o10) K' := by
  refine EV_iload 4 d_Tok_scan_55 rfl ?_
  refine EV_callN (as := [vI x4]) (st := []) d_Tok_scan_57 k_491 k_348 k_1 k_349 pd_57 ⟨by decide, by decide, Nat.le_of_ble_eq_true rfl⟩ rfl (ct_P_isWordLetter H (fun r_7 H => ?_))
  refine EV_if_eq (tgt := 89) d_Tok_scan_60 (by decide) (fun hc => ?_) (fun hc => ?_)
  · have H := H.1 hc
    refine EV_iload 4 d_Tok_scan_89 rfl ?_
    refine EV_bipush d_Tok_scan_91 (by decide +kernel) ⟨by decide, by decide⟩ ?_
    refine EV_icmp_ne (tgt := 109) d_Tok_scan_93 (by decide) (fun hc => ?_) (fun hc => ?_)
    · have H := H.1 hc
      refine EV_lv (lv' := [(0, vR 3), (1, vR 1), (2, vI x2), (4, vI x4)]) [0, 1, 2, 4] rfl ?_
      exact ct_Tok_scan_109 hL7 H hK
    · have H := H.2 hc
      refine EV_iload_n 3 d_Tok_scan_96 rfl rfl ?_
      refine EV_bipush d_Tok_scan_97 (by decide +kernel) ⟨by decide, by decide⟩ ?_
      refine EV_icmp_ne (tgt := 109) d_Tok_scan_99 (by decide) (fun hc => ?_) (fun hc => ?_)
      · have H := H.1 hc
        refine EV_lv (lv' := [(0, vR 3), (1, vR 1), (2, vI x2), (4, vI x4)]) [0, 1, 2, 4] rfl ?_
        exact ct_Tok_scan_109 hL7 H hK
      · have H := H.2 hc
        refine EV_aload_n 0 d_Tok_scan_102 rfl rfl ?_
        refine EV_callV (as := []) (st := []) d_Tok_scan_103 k_501 k_503 kp_3 k_6 k_504 shC_3 rfl pd_65 ⟨by decide, by decide, Nat.le_of_ble_eq_true rfl⟩ rfl (ct_Tok_completeNeck H (fun tk_10 H => ?_))
        refine EV_goto (tgt := 149) d_Tok_scan_106 (by decide) ?_
        refine EV_lv (lv' := [(0, vR 3), (1, vR 1), (2, vI x2)]) [0, 1, 2] rfl ?_
        exact ct_Tok_scan_149 hL7 H hK
  · have H := H.2 hc
    refine EV_aload_n 0 d_Tok_scan_63 rfl rfl ?_
    refine EV_iload 4 d_Tok_scan_64 rfl ?_
    refine EV_callN (as := [vI x4]) (st := [vR 3]) d_Tok_scan_66 k_496 k_351 k_1 k_352 pd_47 ⟨by decide, by decide, Nat.le_of_ble_eq_true rfl⟩ rfl (ct_P_isSmall H (fun r_11 H => ?_))
    refine EV_if_eq (tgt := 77) d_Tok_scan_69 (by decide) (fun hc => ?_) (fun hc => ?_)
    · have H := H.1 hc
      refine EV_bipush d_Tok_scan_77 (by decide +kernel) ⟨by decide, by decide⟩ ?_
      refine EV_lv (lv' := [(0, vR 3), (1, vR 1), (2, vI x2), (4, vI x4)]) [0, 1, 2, 4] rfl ?_
      exact ct_Tok_scan_79 hL7 H hK
    · have H := H.2 hc
      refine EV_bipush d_Tok_scan_72 (by decide +kernel) ⟨by decide, by decide⟩ ?_
      refine EV_goto (tgt := 79) d_Tok_scan_74 (by decide) ?_
      refine EV_lv (lv' := [(0, vR 3), (1, vR 1), (2, vI x2), (4, vI x4)]) [0, 1, 2, 4] rfl ?_
      exact ct_Tok_scan_79 hL7 H hK
theorem ct_Tok_scan_7 {l : Launch} {tx o2 o3 o4 o5 o6 o7 o8 o9 o10 : Ob} {K : Ob → Prop} {K' : Option AV → List AC → Prop} (hK : ∀ (tk' : Ob), K tk' → K' none (shC tx tk' o2 o3 o4 o5 o6 o7 o8 o9 o10)) : ∀ (n : Nat) (x2 : Int) (tk : Ob), Tok_scan_7 n x2 tx tk K → EV l prog_11_method_2_code "PrunedSearch$Tokens" 5 none 2 7 [(0, vR 3), (1, vR 1), (2, vI x2)] [] (shC tx tk o2 o3 o4 o5 o6 o7 o8 o9 o10) K' := by
  intro n
  induction n with
  | zero =>
    intro x2 tk H
    exact H.elim
  | succ n ih =>
    intro x2 tk H
    refine EV_iload_n 2 d_Tok_scan_7 rfl rfl ?_
    refine EV_aload_n 1 d_Tok_scan_8 rfl rfl ?_
    refine EV_callV (as := []) (st := [vI x2]) d_Tok_scan_9 k_483 k_484 k_485 k_2 k_486 shC_1 rfl pd_64 ⟨by decide, by decide, Nat.le_of_ble_eq_true rfl⟩ rfl (ct_Text_size H (fun r_1 H => ?_))
    refine EV_icmp_ge (tgt := 155) d_Tok_scan_12 (by decide) (fun hc => ?_) (fun hc => ?_)
    · have H := H.1 hc
      refine EV_lv (lv' := [(0, vR 3), (1, vR 1)]) [0, 1] rfl ?_
      exact ct_Tok_scan_155 H hK
    · have H := H.2 hc
      refine EV_aload_n 1 d_Tok_scan_15 rfl rfl ?_
      refine EV_iload_n 2 d_Tok_scan_16 rfl rfl ?_
      refine EV_iconst d_Tok_scan_17 ⟨by decide, by decide⟩ ?_
      obtain ⟨hr, H⟩ := H
      refine EV_isub d_Tok_scan_18 hr ?_
      refine EV_callV (as := [vI (x2 - 1)]) (st := []) d_Tok_scan_19 k_487 k_488 k_489 k_2 k_490 shC_1 rfl pd_67 ⟨by decide, by decide, Nat.le_of_ble_eq_true rfl⟩ rfl (ct_Text_at H (fun r_4 H => ?_))
      refine EV_istore_n (lv' := [(0, vR 3), (1, vR 1), (2, vI x2), (3, vI r_4)]) [1, 2, 3, 0] d_Tok_scan_22 rfl (by decide) rfl ?_
      refine EV_aload_n 1 d_Tok_scan_23 rfl rfl ?_
      refine EV_iload_n 2 d_Tok_scan_24 rfl rfl ?_
      refine EV_callV (as := [vI x2]) (st := []) d_Tok_scan_25 k_487 k_488 k_489 k_2 k_490 shC_1 rfl pd_67 ⟨by decide, by decide, Nat.le_of_ble_eq_true rfl⟩ rfl (ct_Text_at H (fun r_5 H => ?_))
      refine EV_istore (lv' := [(0, vR 3), (1, vR 1), (2, vI x2), (3, vI r_4), (4, vI r_5)]) [1, 2, 3, 4, 0] d_Tok_scan_28 (by decide) rfl ?_
      refine EV_iload 4 d_Tok_scan_30 rfl ?_
      refine EV_callN (as := [vI r_5]) (st := []) d_Tok_scan_32 k_491 k_348 k_1 k_349 pd_57 ⟨by decide, by decide, Nat.le_of_ble_eq_true rfl⟩ rfl (ct_P_isWordLetter H (fun r_6 H => ?_))
      refine EV_if_eq (tgt := 55) d_Tok_scan_35 (by decide) (fun hc => ?_) (fun hc => ?_)
      · have H := H.1 hc
        exact ct_Tok_scan_55 (fun x2 tk' H => ih x2 tk' H) H hK
      · have H := H.2 hc
        refine EV_iload_n 3 d_Tok_scan_38 rfl rfl ?_
        refine EV_callN (as := [vI r_4]) (st := []) d_Tok_scan_39 k_491 k_348 k_1 k_349 pd_57 ⟨by decide, by decide, Nat.le_of_ble_eq_true rfl⟩ rfl (ct_P_isWordLetter H (fun r_13 H => ?_))
        refine EV_if_eq (tgt := 55) d_Tok_scan_42 (by decide) (fun hc => ?_) (fun hc => ?_)
        · have H := H.1 hc
          exact ct_Tok_scan_55 (fun x2 tk' H => ih x2 tk' H) H hK
        · have H := H.2 hc
          refine EV_aload_n 0 d_Tok_scan_45 rfl rfl ?_
          refine EV_iload 4 d_Tok_scan_46 rfl ?_
          refine EV_iload_n 2 d_Tok_scan_48 rfl rfl ?_
          refine EV_callV (as := [vI r_5, vI x2]) (st := []) d_Tok_scan_49 k_492 k_494 kp_1 k_6 k_495 shC_3 rfl pd_66 ⟨by decide, by decide, Nat.le_of_ble_eq_true rfl⟩ rfl (ct_Tok_lengthenWord H (fun tk_14 H => ?_))
          refine EV_goto (tgt := 149) d_Tok_scan_52 (by decide) ?_
          refine EV_lv (lv' := [(0, vR 3), (1, vR 1), (2, vI x2)]) [0, 1, 2] rfl ?_
          exact ct_Tok_scan_149 (fun x2 tk' H => ih x2 tk' H) H hK
theorem ct_Tok_scan {l : Launch} {tx tk o2 o3 o4 o5 o6 o7 o8 o9 o10 : Ob} {K : Ob → Prop} {K' : Option AV → List AC → Prop} (H : wp_Tok_scan tx tk K) (hK : ∀ (tk' : Ob), K tk' → K' none (shC tx tk' o2 o3 o4 o5 o6 o7 o8 o9 o10)) : MT l ⟨"PrunedSearch$Tokens", "scan", "(LPrunedSearch$Text;)V"⟩ prog_11_method_2_code 5 none 2 [vR 3, vR 1] (shC tx tk o2 o3 o4 o5 o6 o7 o8 o9 o10) K' := by
  unfold wp_Tok_scan at H
  refine MT_of (lv := [(0, vR 3), (1, vR 1)]) rfl rfl (Nat.le_of_ble_eq_true rfl) rfl ?_
  refine EV_aload_n 0 d_Tok_scan_0 rfl rfl ?_
  refine EV_iconst d_Tok_scan_1 ⟨by decide, by decide⟩ ?_
  refine EV_put (j := 3) d_Tok_scan_2 shC_3 rfl fI2 fO2 fN2 (by decide) k_100 rfl rfl (fun ad => nf_int ad _) (Nat.le_of_ble_eq_true rfl) shC_3_3 ?_
  refine EV_iconst d_Tok_scan_5 ⟨by decide, by decide⟩ ?_
  refine EV_istore_n (lv' := [(0, vR 3), (1, vR 1), (2, vI 0)]) [1, 2, 0] d_Tok_scan_6 rfl (by decide) rfl ?_
  obtain ⟨n, H⟩ := H
  exact ct_Tok_scan_7 hK n 0 (sI tk 0 0) H
theorem ct_Cod_clear_r {l : Launch} {o0 o1 o2 o3 rc o5 o6 o7 o8 o9 o10 : Ob} {K : Ob → Prop} {K' : Option AV → List AC → Prop} (H : wp_Cod_clear_r rc K) (hK : ∀ (rc' : Ob), K rc' → K' none (shC o0 o1 o2 o3 rc' o5 o6 o7 o8 o9 o10)) : MT l ⟨"PrunedSearch$Code", "clear", "()V"⟩ prog_4_method_2_code 1 none 0 [vR 13] (shC o0 o1 o2 o3 rc o5 o6 o7 o8 o9 o10) K' := by
  unfold wp_Cod_clear_r at H
  refine MT_of (lv := [(0, vR 13)]) rfl rfl (Nat.le_of_ble_eq_true rfl) rfl ?_
  refine EV_aload_n 0 d_Cod_clear_r_0 rfl rfl ?_
  refine EV_iconst d_Cod_clear_r_1 ⟨by decide, by decide⟩ ?_
  refine EV_put (j := 3) d_Cod_clear_r_2 shC_13 rfl fI4 fO4 fN4 (by decide) k_71 rfl rfl (fun ad => nf_int ad _) (Nat.le_of_ble_eq_true rfl) shC_13_3 ?_
  refine EV_aload_n 0 d_Cod_clear_r_5 rfl rfl ?_
  refine EV_iconst d_Cod_clear_r_6 ⟨by decide, by decide⟩ ?_
  refine EV_put (j := 4) d_Cod_clear_r_7 shC_13 rfl fI4 fO4 fN4 (by decide) k_72 rfl rfl (fun ad => nf_int ad _) (Nat.le_of_ble_eq_true rfl) shC_13_4 ?_
  exact EV_vret d_Cod_clear_r_10 rfl (hK _ H)
theorem ct_Rd_startPart {l : Launch} {o0 o1 o2 o3 o4 rd o6 o7 o8 o9 o10 : Ob} {K : Ob → Prop} {K' : Option AV → List AC → Prop} (H : wp_Rd_startPart rd K) (hK : ∀ (rd' : Ob), K rd' → K' none (shC o0 o1 o2 o3 o4 rd' o6 o7 o8 o9 o10)) : MT l ⟨"PrunedSearch$ClauseReader", "startPart", "()V"⟩ prog_3_method_7_code 1 none 0 [vR 17] (shC o0 o1 o2 o3 o4 rd o6 o7 o8 o9 o10) K' := by
  unfold wp_Rd_startPart at H
  refine MT_of (lv := [(0, vR 17)]) rfl rfl (Nat.le_of_ble_eq_true rfl) rfl ?_
  refine EV_aload_n 0 d_Rd_startPart_0 rfl rfl ?_
  refine EV_iconst d_Rd_startPart_1 ⟨by decide, by decide⟩ ?_
  refine EV_put (j := 4) d_Rd_startPart_2 shC_17 rfl fI5 fO5 fN5 (by decide) k_116 rfl rfl (fun ad => nf_int ad _) (Nat.le_of_ble_eq_true rfl) shC_17_4 ?_
  refine EV_aload_n 0 d_Rd_startPart_5 rfl rfl ?_
  refine EV_iconst d_Rd_startPart_6 ⟨by decide, by decide⟩ ?_
  refine EV_put (j := 5) d_Rd_startPart_7 shC_17 rfl fI5 fO5 fN5 (by decide) k_117 rfl rfl (fun ad => nf_int ad _) (Nat.le_of_ble_eq_true rfl) shC_17_5 ?_
  refine EV_aload_n 0 d_Rd_startPart_10 rfl rfl ?_
  refine EV_iconst d_Rd_startPart_11 ⟨by decide, by decide⟩ ?_
  refine EV_put (j := 6) d_Rd_startPart_12 shC_17 rfl fI5 fO5 fN5 (by decide) k_118 rfl rfl (fun ad => nf_int ad _) (Nat.le_of_ble_eq_true rfl) shC_17_6 ?_
  exact EV_vret d_Rd_startPart_15 rfl (hK _ H)
theorem ct_Rd_start {l : Launch} {tx tk o2 o3 rc rd o6 o7 o8 o9 o10 : Ob} {K : Ob → Ob → Ob → Prop} {K' : Option AV → List AC → Prop} (H : wp_Rd_start tx tk rc rd K) (hK : ∀ (tk' rc' rd' : Ob), K tk' rc' rd' → K' none (shC tx tk' o2 o3 rc' rd' o6 o7 o8 o9 o10)) : MT l ⟨"PrunedSearch$ClauseReader", "start", "(LPrunedSearch$Text;)V"⟩ prog_3_method_5_code 2 none 3 [vR 17, vR 1] (shC tx tk o2 o3 rc rd o6 o7 o8 o9 o10) K' := by
  unfold wp_Rd_start at H
  refine MT_of (lv := [(0, vR 17), (1, vR 1)]) rfl rfl (Nat.le_of_ble_eq_true rfl) rfl ?_
  refine EV_aload_n 0 d_Rd_start_0 rfl rfl ?_
  refine EV_get (j := 1) d_Rd_start_1 shC_17 rfl fI5 (by decide) k_113 rfl ?_
  refine EV_aload_n 1 d_Rd_start_4 rfl rfl ?_
  refine EV_callV (as := [vR 1]) (st := []) d_Rd_start_5 k_479 k_480 k_481 k_6 k_482 shC_3 rfl pd_70 ⟨by decide, by decide, Nat.le_of_ble_eq_true rfl⟩ rfl (ct_Tok_scan H (fun tk_1 H => ?_))
  refine EV_aload_n 0 d_Rd_start_8 rfl rfl ?_
  refine EV_get (j := 2) d_Rd_start_9 shC_17 rfl fI5 (by decide) k_114 rfl ?_
  refine EV_callV (as := []) (st := []) d_Rd_start_12 k_505 k_506 k_507 k_4 k_508 shC_13 rfl pd_69 ⟨by decide, by decide, Nat.le_of_ble_eq_true rfl⟩ rfl (ct_Cod_clear_r H (fun rc_2 H => ?_))
  refine EV_aload_n 0 d_Rd_start_15 rfl rfl ?_
  refine EV_iconst d_Rd_start_16 ⟨by decide, by decide⟩ ?_
  refine EV_put (j := 8) d_Rd_start_17 shC_17 rfl fI5 fO5 fN5 (by decide) k_120 rfl rfl (fun ad => nf_int ad _) (Nat.le_of_ble_eq_true rfl) shC_17_8 ?_
  refine EV_aload_n 0 d_Rd_start_20 rfl rfl ?_
  refine EV_iconst d_Rd_start_21 ⟨by decide, by decide⟩ ?_
  refine EV_put (j := 7) d_Rd_start_22 shC_17 rfl fI5 fO5 fN5 (by decide) k_119 rfl rfl (fun ad => nf_int ad _) (Nat.le_of_ble_eq_true rfl) shC_17_7 ?_
  refine EV_aload_n 0 d_Rd_start_25 rfl rfl ?_
  refine EV_iconst d_Rd_start_26 ⟨by decide, by decide⟩ ?_
  refine EV_put (j := 9) d_Rd_start_27 shC_17 rfl fI5 fO5 fN5 (by decide) k_121 rfl rfl (fun ad => nf_bool ad (by decide)) (Nat.le_of_ble_eq_true rfl) shC_17_9 ?_
  refine EV_aload_n 0 d_Rd_start_30 rfl rfl ?_
  refine EV_callV (as := []) (st := []) d_Rd_start_31 k_509 k_511 kp_4 k_5 k_512 shC_17 rfl pd_68 ⟨by decide, by decide, Nat.le_of_ble_eq_true rfl⟩ rfl (ct_Rd_startPart H (fun rd_3 H => ?_))
  exact EV_vret d_Rd_start_34 rfl (hK _ _ _ H)
theorem ct_Tok_kindAt {l : Launch} {o0 tk o2 o3 o4 o5 o6 o7 o8 o9 o10 : Ob} {x1 : Int} {K : Int → Prop} {K' : Option AV → List AC → Prop} (H : wp_Tok_kindAt x1 tk K) (hK : ∀ (r : Int), K r → K' (some (vI r)) (shC o0 tk o2 o3 o4 o5 o6 o7 o8 o9 o10)) : MT l ⟨"PrunedSearch$Tokens", "kindAt", "(I)C"⟩ prog_11_method_6_code 2 (some .char) 0 [vR 3, vI x1] (shC o0 tk o2 o3 o4 o5 o6 o7 o8 o9 o10) K' := by
  unfold wp_Tok_kindAt at H
  refine MT_of (lv := [(0, vR 3), (1, vI x1)]) rfl rfl (Nat.le_of_ble_eq_true rfl) rfl ?_
  refine EV_iload_n 1 d_Tok_kindAt_0 rfl rfl ?_
  refine EV_if_lt (tgt := 21) d_Tok_kindAt_1 (by decide) (fun hc => ?_) (fun hc => ?_)
  · have H := H.1 hc
    refine EV_bipush d_Tok_kindAt_21 (by decide +kernel) ⟨by decide, by decide⟩ ?_
    exact EV_iret d_Tok_kindAt_23 rfl (nw_char ⟨by decide, by decide⟩) (hK _ H)
  · have H := H.2 hc
    refine EV_iload_n 1 d_Tok_kindAt_4 rfl rfl ?_
    refine EV_aload_n 0 d_Tok_kindAt_5 rfl rfl ?_
    refine EV_get (j := 3) d_Tok_kindAt_6 shC_3 rfl fI2 (by decide) k_100 rfl ?_
    refine EV_icmp_ge (tgt := 21) d_Tok_kindAt_9 (by decide) (fun hc => ?_) (fun hc => ?_)
    · have H := H.1 hc
      refine EV_bipush d_Tok_kindAt_21 (by decide +kernel) ⟨by decide, by decide⟩ ?_
      exact EV_iret d_Tok_kindAt_23 rfl (nw_char ⟨by decide, by decide⟩) (hK _ H)
    · have H := H.2 hc
      refine EV_aload_n 0 d_Tok_kindAt_12 rfl rfl ?_
      refine EV_get (j := 0) d_Tok_kindAt_13 shC_3 rfl fI2 (by decide) k_97 rfl ?_
      refine EV_iload_n 1 d_Tok_kindAt_16 rfl rfl ?_
      obtain ⟨hi, H⟩ := H
      refine EV_cald d_Tok_kindAt_17 shC_4 hi ?_
      refine EV_goto (tgt := 23) d_Tok_kindAt_18 (by decide) ?_
      obtain ⟨hb, H⟩ := H
      exact EV_iret d_Tok_kindAt_23 rfl (nw_char hb) (hK _ H)
theorem ct_Rd_isAt {l : Launch} {o0 tk o2 o3 o4 rd o6 o7 o8 o9 o10 : Ob} {x1 : Int} {K : Int → Prop} {K' : Option AV → List AC → Prop} (H : wp_Rd_isAt x1 tk rd K) (hK : ∀ (r : Int), K r → K' (some (vI r)) (shC o0 tk o2 o3 o4 rd o6 o7 o8 o9 o10)) : MT l ⟨"PrunedSearch$ClauseReader", "isAt", "(C)Z"⟩ prog_3_method_16_code 2 (some .boolean) 1 [vR 17, vI x1] (shC o0 tk o2 o3 o4 rd o6 o7 o8 o9 o10) K' := by
  unfold wp_Rd_isAt at H
  refine MT_of (lv := [(0, vR 17), (1, vI x1)]) rfl rfl (Nat.le_of_ble_eq_true rfl) rfl ?_
  refine EV_aload_n 0 d_Rd_isAt_0 rfl rfl ?_
  refine EV_get (j := 1) d_Rd_isAt_1 shC_17 rfl fI5 (by decide) k_113 rfl ?_
  refine EV_aload_n 0 d_Rd_isAt_4 rfl rfl ?_
  refine EV_get (j := 8) d_Rd_isAt_5 shC_17 rfl fI5 (by decide) k_120 rfl ?_
  refine EV_callV (as := [vI (rd.1 4)]) (st := []) d_Rd_isAt_8 k_517 k_518 k_519 k_6 k_520 shC_3 rfl pd_71 ⟨by decide, by decide, Nat.le_of_ble_eq_true rfl⟩ rfl (ct_Tok_kindAt H (fun r_1 H => ?_))
  refine EV_iload_n 1 d_Rd_isAt_11 rfl rfl ?_
  refine EV_icmp_ne (tgt := 19) d_Rd_isAt_12 (by decide) (fun hc => ?_) (fun hc => ?_)
  · have H := H.1 hc
    refine EV_iconst d_Rd_isAt_19 ⟨by decide, by decide⟩ ?_
    exact EV_iret d_Rd_isAt_20 rfl (nw_bool (by decide)) (hK _ H)
  · have H := H.2 hc
    refine EV_iconst d_Rd_isAt_15 ⟨by decide, by decide⟩ ?_
    refine EV_goto (tgt := 20) d_Rd_isAt_16 (by decide) ?_
    exact EV_iret d_Rd_isAt_20 rfl (nw_bool (by decide)) (hK _ H)
theorem ct_Tok_wordAt {l : Launch} {o0 tk o2 o3 o4 o5 o6 o7 o8 o9 o10 : Ob} {x1 : Int} {K : Nat → Prop} {K' : Option AV → List AC → Prop} (H : wp_Tok_wordAt x1 tk K) (hK : ∀ (r : Nat), K r → K' (some (vL r)) (shC o0 tk o2 o3 o4 o5 o6 o7 o8 o9 o10)) : MT l ⟨"PrunedSearch$Tokens", "wordAt", "(I)J"⟩ prog_11_method_8_code 2 (some .long) 0 [vR 3, vI x1] (shC o0 tk o2 o3 o4 o5 o6 o7 o8 o9 o10) K' := by
  unfold wp_Tok_wordAt at H
  refine MT_of (lv := [(0, vR 3), (1, vI x1)]) rfl rfl (Nat.le_of_ble_eq_true rfl) rfl ?_
  refine EV_iload_n 1 d_Tok_wordAt_0 rfl rfl ?_
  refine EV_if_lt (tgt := 21) d_Tok_wordAt_1 (by decide) (fun hc => ?_) (fun hc => ?_)
  · have H := H.1 hc
    refine EV_lconst (v := 0) d_Tok_wordAt_21 rfl ?_
    exact EV_lret d_Tok_wordAt_22 rfl (hK _ H)
  · have H := H.2 hc
    refine EV_iload_n 1 d_Tok_wordAt_4 rfl rfl ?_
    refine EV_aload_n 0 d_Tok_wordAt_5 rfl rfl ?_
    refine EV_get (j := 3) d_Tok_wordAt_6 shC_3 rfl fI2 (by decide) k_100 rfl ?_
    refine EV_icmp_ge (tgt := 21) d_Tok_wordAt_9 (by decide) (fun hc => ?_) (fun hc => ?_)
    · have H := H.1 hc
      refine EV_lconst (v := 0) d_Tok_wordAt_21 rfl ?_
      exact EV_lret d_Tok_wordAt_22 rfl (hK _ H)
    · have H := H.2 hc
      refine EV_aload_n 0 d_Tok_wordAt_12 rfl rfl ?_
      refine EV_get (j := 2) d_Tok_wordAt_13 shC_3 rfl fI2 (by decide) k_99 rfl ?_
      refine EV_iload_n 1 d_Tok_wordAt_16 rfl rfl ?_
      obtain ⟨hi, H⟩ := H
      refine EV_lald d_Tok_wordAt_17 shC_6 hi ?_
      refine EV_goto (tgt := 22) d_Tok_wordAt_18 (by decide) ?_
      exact EV_lret d_Tok_wordAt_22 rfl (hK _ H)
theorem ct_Rd_variableSymbol_133 {l : Launch} {o0 o1 o2 o3 o4 o6 o7 o8 o9 o10 : Ob} {K : Int → Ob → Prop} {K' : Option AV → List AC → Prop} {x3 : Int} {rd : Ob} (H : Rd_variableSymbol_133 x3 rd K) (hK : ∀ (r : Int) (rd' : Ob), K r rd' → K' (some (vI r)) (shC o0 o1 o2 o3 o4 rd' o6 o7 o8 o9 o10)) : EV l prog_3_method_15_code "PrunedSearch$ClauseReader" 4 (some .int) 0 133 [(3, vI x3)] [] (shC o0 o1 o2 o3 o4 rd o6 o7 o8 o9 o10) K' := by
  refine EV_bipush d_Rd_variableSymbol_133 (by decide +kernel) ⟨by decide, by decide⟩ ?_
  refine EV_iload_n 0 d_Rd_variableSymbol_135 rfl rfl ?_
  obtain ⟨hr, H⟩ := H
  refine EV_isub d_Rd_variableSymbol_136 hr ?_
  exact EV_iret d_Rd_variableSymbol_137 rfl (nw_int _) (hK _ _ H)
theorem ct_Rd_variableSymbol_106 {l : Launch} {o0 o1 o2 o3 o4 o6 o7 o8 o9 o10 : Ob} {K : Int → Ob → Prop} {K' : Option AV → List AC → Prop} {y1 : Nat} {x3 : Int} {s0 : Int} {s1 : Int} {rd : Ob} (H : Rd_variableSymbol_106 y1 x3 s0 s1 rd K) (hK : ∀ (r : Int) (rd' : Ob), K r rd' → K' (some (vI r)) (shC o0 o1 o2 o3 o4 rd' o6 o7 o8 o9 o10)) : EV l prog_3_method_15_code "PrunedSearch$ClauseReader" 4 (some .int) 0 106 [(0, vR 17), (1, vL y1), (3, vI x3)] [vI s0, vI s1, vR 17] (shC o0 o1 o2 o3 o4 rd o6 o7 o8 o9 o10) K' := by
  obtain ⟨h0, h1, H⟩ := H
  refine EV_ior d_Rd_variableSymbol_106 h0 h1 ?_
  obtain ⟨hb, H⟩ := H
  refine EV_put (j := 9) d_Rd_variableSymbol_107 shC_17 rfl fI5 fO5 fN5 (by decide) k_121 rfl rfl (fun ad => nf_bool ad hb) (Nat.le_of_ble_eq_true rfl) shC_17_9 ?_
  refine EV_iload_n 2 d_Rd_variableSymbol_110 rfl rfl ?_
  refine EV_bipush d_Rd_variableSymbol_111 (by decide +kernel) ⟨by decide, by decide⟩ ?_
  refine EV_icmp_ge (tgt := 133) d_Rd_variableSymbol_113 (by decide) (fun hc => ?_) (fun hc => ?_)
  · have H := H.1 hc
    refine EV_lv (lv' := [(3, vI x3)]) [2] rfl ?_
    exact ct_Rd_variableSymbol_133 H hK
  · have H := H.2 hc
    refine EV_aload_n 0 d_Rd_variableSymbol_116 rfl rfl ?_
    refine EV_get (j := 3) d_Rd_variableSymbol_117 shC_17 rfl fI5 (by decide) k_115 rfl ?_
    refine EV_iload_n 2 d_Rd_variableSymbol_120 rfl rfl ?_
    refine EV_lload_n 1 d_Rd_variableSymbol_121 rfl rfl ?_
    obtain ⟨hi, H⟩ := H
    refine EV_last d_Rd_variableSymbol_122 shC_18 hi shC_18_s ?_
    refine EV_aload_n 0 d_Rd_variableSymbol_123 rfl rfl ?_
    refine EV_dup d_Rd_variableSymbol_124 rfl ?_
    refine EV_get (j := 4) d_Rd_variableSymbol_125 shC_17 rfl fI5 (by decide) k_116 rfl ?_
    refine EV_iconst d_Rd_variableSymbol_128 ⟨by decide, by decide⟩ ?_
    obtain ⟨hr, H⟩ := H
    refine EV_iadd d_Rd_variableSymbol_129 hr ?_
    refine EV_put (j := 4) d_Rd_variableSymbol_130 shC_17 rfl fI5 fO5 fN5 (by decide) k_116 rfl rfl (fun ad => nf_int ad _) (Nat.le_of_ble_eq_true rfl) shC_17_4 ?_
    refine EV_lv (lv' := [(3, vI x3)]) [2] rfl ?_
    exact ct_Rd_variableSymbol_133 H hK
theorem ct_Rd_variableSymbol_75 {l : Launch} {o0 o1 o2 o3 o4 o6 o7 o8 o9 o10 : Ob} {K : Int → Ob → Prop} {K' : Option AV → List AC → Prop} {y1 : Nat} {x3 : Int} {rd : Ob} (H : Rd_variableSymbol_75 y1 x3 rd K) (hK : ∀ (r : Int) (rd' : Ob), K r rd' → K' (some (vI r)) (shC o0 o1 o2 o3 o4 rd' o6 o7 o8 o9 o10)) : EV l prog_3_method_15_code "PrunedSearch$ClauseReader" 4 (some .int) 0 75 [(0, vR 17), (1, vL y1), (3, vI x3)] [] (shC o0 o1 o2 o3 o4 rd o6 o7 o8 o9 o10) K' := by
  refine EV_iload_n 2 d_Rd_variableSymbol_75 rfl rfl ?_
  refine EV_aload_n 0 d_Rd_variableSymbol_76 rfl rfl ?_
  refine EV_get (j := 4) d_Rd_variableSymbol_77 shC_17 rfl fI5 (by decide) k_116 rfl ?_
  refine EV_icmp_ne (tgt := 133) d_Rd_variableSymbol_80 (by decide) (fun hc => ?_) (fun hc => ?_)
  · have H := H.1 hc
    refine EV_lv (lv' := [(3, vI x3)]) [2] rfl ?_
    exact ct_Rd_variableSymbol_133 H hK
  · have H := H.2 hc
    refine EV_aload_n 0 d_Rd_variableSymbol_83 rfl rfl ?_
    refine EV_dup d_Rd_variableSymbol_84 rfl ?_
    refine EV_get (j := 9) d_Rd_variableSymbol_85 shC_17 rfl fI5 (by decide) k_121 rfl ?_
    refine EV_iload_n 2 d_Rd_variableSymbol_88 rfl rfl ?_
    refine EV_iconst d_Rd_variableSymbol_89 ⟨by decide, by decide⟩ ?_
    obtain ⟨hr, H⟩ := H
    refine EV_iadd d_Rd_variableSymbol_90 hr ?_
    refine EV_aload_n 0 d_Rd_variableSymbol_91 rfl rfl ?_
    refine EV_get (j := 5) d_Rd_variableSymbol_92 shC_17 rfl fI5 (by decide) k_117 rfl ?_
    obtain ⟨hr, H⟩ := H
    refine EV_iadd d_Rd_variableSymbol_95 hr ?_
    refine EV_bipush d_Rd_variableSymbol_96 (by decide +kernel) ⟨by decide, by decide⟩ ?_
    refine EV_icmp_le (tgt := 105) d_Rd_variableSymbol_98 (by decide) (fun hc => ?_) (fun hc => ?_)
    · have H := H.1 hc
      refine EV_iconst d_Rd_variableSymbol_105 ⟨by decide, by decide⟩ ?_
      exact ct_Rd_variableSymbol_106 H hK
    · have H := H.2 hc
      refine EV_iconst d_Rd_variableSymbol_101 ⟨by decide, by decide⟩ ?_
      refine EV_goto (tgt := 106) d_Rd_variableSymbol_102 (by decide) ?_
      exact ct_Rd_variableSymbol_106 H hK
theorem ct_Rd_variableSymbol_50 {l : Launch} {o0 o1 o2 o3 o4 o6 o7 o8 o9 o10 : Ob} {K : Int → Ob → Prop} {K' : Option AV → List AC → Prop} (hK : ∀ (r : Int) (rd' : Ob), K r rd' → K' (some (vI r)) (shC o0 o1 o2 o3 o4 rd' o6 o7 o8 o9 o10)) : ∀ (n : Nat) (y1 : Nat) (x3 : Int) (rd : Ob), Rd_variableSymbol_50 n y1 x3 rd K → EV l prog_3_method_15_code "PrunedSearch$ClauseReader" 4 (some .int) 0 50 [(0, vR 17), (1, vL y1), (3, vI x3)] [] (shC o0 o1 o2 o3 o4 rd o6 o7 o8 o9 o10) K' := by
  intro n
  induction n with
  | zero =>
    intro y1 x3 rd H
    exact H.elim
  | succ n ih =>
    intro y1 x3 rd H
    refine EV_iload_n 2 d_Rd_variableSymbol_50 rfl rfl ?_
    refine EV_aload_n 0 d_Rd_variableSymbol_51 rfl rfl ?_
    refine EV_get (j := 4) d_Rd_variableSymbol_52 shC_17 rfl fI5 (by decide) k_116 rfl ?_
    refine EV_icmp_ge (tgt := 75) d_Rd_variableSymbol_55 (by decide) (fun hc => ?_) (fun hc => ?_)
    · have H := H.1 hc
      exact ct_Rd_variableSymbol_75 H hK
    · have H := H.2 hc
      refine EV_aload_n 0 d_Rd_variableSymbol_58 rfl rfl ?_
      refine EV_get (j := 3) d_Rd_variableSymbol_59 shC_17 rfl fI5 (by decide) k_115 rfl ?_
      refine EV_iload_n 2 d_Rd_variableSymbol_62 rfl rfl ?_
      obtain ⟨hi, H⟩ := H
      refine EV_lald d_Rd_variableSymbol_63 shC_18 hi ?_
      refine EV_lload_n 1 d_Rd_variableSymbol_64 rfl rfl ?_
      refine EV_lcmp_eq (tgt := 75) d_Rd_variableSymbol_65 d_Rd_variableSymbol_66 (by decide) (fun hc => ?_) (fun hc => ?_)
      · have H := H.1 hc
        exact ct_Rd_variableSymbol_75 H hK
      · have H := H.2 hc
        obtain ⟨hr, H⟩ := H
        refine EV_iinc (lv' := [(0, vR 17), (1, vL y1), (3, vI (x3 + 1))]) 2 [1, 2, 0] d_Rd_variableSymbol_69 rfl (by decide) hr rfl ?_
        refine EV_goto (tgt := 50) d_Rd_variableSymbol_72 (by decide) ?_
        exact ih y1 (x3 + 1) rd H
theorem ct_Rd_variableSymbol_42 {l : Launch} {o0 o1 o2 o3 o4 o6 o7 o8 o9 o10 : Ob} {K : Int → Ob → Prop} {K' : Option AV → List AC → Prop} {s0 : Int} {s1 : Int} {rd : Ob} (H : Rd_variableSymbol_42 s0 s1 rd K) (hK : ∀ (r : Int) (rd' : Ob), K r rd' → K' (some (vI r)) (shC o0 o1 o2 o3 o4 rd' o6 o7 o8 o9 o10)) : EV l prog_3_method_15_code "PrunedSearch$ClauseReader" 4 (some .int) 0 42 [] [vI s0, vI s1, vR 17] (shC o0 o1 o2 o3 o4 rd o6 o7 o8 o9 o10) K' := by
  obtain ⟨h0, h1, H⟩ := H
  refine EV_ior d_Rd_variableSymbol_42 h0 h1 ?_
  obtain ⟨hb, H⟩ := H
  refine EV_put (j := 9) d_Rd_variableSymbol_43 shC_17 rfl fI5 fO5 fN5 (by decide) k_121 rfl rfl (fun ad => nf_bool ad hb) (Nat.le_of_ble_eq_true rfl) shC_17_9 ?_
  refine EV_iconst d_Rd_variableSymbol_46 ⟨by decide, by decide⟩ ?_
  exact EV_iret d_Rd_variableSymbol_47 rfl (nw_int _) (hK _ _ H)
theorem ct_Rd_variableSymbol {l : Launch} {o0 o1 o2 o3 o4 rd o6 o7 o8 o9 o10 : Ob} {y1 : Nat} {K : Int → Ob → Prop} {K' : Option AV → List AC → Prop} (H : wp_Rd_variableSymbol y1 rd K) (hK : ∀ (r : Int) (rd' : Ob), K r rd' → K' (some (vI r)) (shC o0 o1 o2 o3 o4 rd' o6 o7 o8 o9 o10)) : MT l ⟨"PrunedSearch$ClauseReader", "variableSymbol", "(J)I"⟩ prog_3_method_15_code 4 (some .int) 0 [vR 17, vL y1] (shC o0 o1 o2 o3 o4 rd o6 o7 o8 o9 o10) K' := by
  unfold wp_Rd_variableSymbol at H
  refine MT_of (lv := [(0, vR 17), (1, vL y1)]) rfl rfl (Nat.le_of_ble_eq_true rfl) rfl ?_
  refine EV_lload_n 1 d_Rd_variableSymbol_0 rfl rfl ?_
  refine EV_ldc2 (n := 95) d_Rd_variableSymbol_1 k_537 (by decide +kernel) (by decide) ?_
  refine EV_lcmp_ne (tgt := 48) d_Rd_variableSymbol_4 d_Rd_variableSymbol_5 (by decide) (fun hc => ?_) (fun hc => ?_)
  · have H := H.1 hc
    refine EV_iconst d_Rd_variableSymbol_48 ⟨by decide, by decide⟩ ?_
    refine EV_istore_n (lv' := [(0, vR 17), (1, vL y1), (3, vI 0)]) [1, 2, 0] d_Rd_variableSymbol_49 rfl (by decide) rfl ?_
    obtain ⟨n, H⟩ := H
    exact ct_Rd_variableSymbol_50 hK n y1 0 rd H
  · have H := H.2 hc
    refine EV_aload_n 0 d_Rd_variableSymbol_8 rfl rfl ?_
    refine EV_dup d_Rd_variableSymbol_9 rfl ?_
    refine EV_get (j := 5) d_Rd_variableSymbol_10 shC_17 rfl fI5 (by decide) k_117 rfl ?_
    refine EV_iconst d_Rd_variableSymbol_13 ⟨by decide, by decide⟩ ?_
    obtain ⟨hr, H⟩ := H
    refine EV_iadd d_Rd_variableSymbol_14 hr ?_
    refine EV_put (j := 5) d_Rd_variableSymbol_15 shC_17 rfl fI5 fO5 fN5 (by decide) k_117 rfl rfl (fun ad => nf_int ad _) (Nat.le_of_ble_eq_true rfl) shC_17_5 ?_
    refine EV_aload_n 0 d_Rd_variableSymbol_18 rfl rfl ?_
    refine EV_dup d_Rd_variableSymbol_19 rfl ?_
    refine EV_get (j := 9) d_Rd_variableSymbol_20 shC_17 rfl fI5 (by decide) k_121 rfl ?_
    refine EV_aload_n 0 d_Rd_variableSymbol_23 rfl rfl ?_
    refine EV_get (j := 4) d_Rd_variableSymbol_24 shC_17 rfl fI5 (by decide) k_116 rfl ?_
    refine EV_aload_n 0 d_Rd_variableSymbol_27 rfl rfl ?_
    refine EV_get (j := 5) d_Rd_variableSymbol_28 shC_17 rfl fI5 (by decide) k_117 rfl ?_
    obtain ⟨hr, H⟩ := H
    refine EV_iadd d_Rd_variableSymbol_31 hr ?_
    refine EV_bipush d_Rd_variableSymbol_32 (by decide +kernel) ⟨by decide, by decide⟩ ?_
    refine EV_icmp_le (tgt := 41) d_Rd_variableSymbol_34 (by decide) (fun hc => ?_) (fun hc => ?_)
    · have H := H.1 hc
      refine EV_iconst d_Rd_variableSymbol_41 ⟨by decide, by decide⟩ ?_
      refine EV_lv (lv' := []) [] rfl ?_
      exact ct_Rd_variableSymbol_42 H hK
    · have H := H.2 hc
      refine EV_iconst d_Rd_variableSymbol_37 ⟨by decide, by decide⟩ ?_
      refine EV_goto (tgt := 42) d_Rd_variableSymbol_38 (by decide) ?_
      refine EV_lv (lv' := []) [] rfl ?_
      exact ct_Rd_variableSymbol_42 H hK
theorem ct_Cod_add_r_32 {l : Launch} {o0 o1 o2 o3 o5 o6 o7 o8 o9 o10 : Ob} {K : Int → Ob → Prop} {K' : Option AV → List AC → Prop} {rc : Ob} (H : Cod_add_r_32 rc K) (hK : ∀ (r : Int) (rc' : Ob), K r rc' → K' (some (vI r)) (shC o0 o1 o2 o3 rc' o5 o6 o7 o8 o9 o10)) : EV l prog_4_method_3_code "PrunedSearch$Code" 2 (some .int) 0 32 [(0, vR 13)] [] (shC o0 o1 o2 o3 rc o5 o6 o7 o8 o9 o10) K' := by
  refine EV_aload_n 0 d_Cod_add_r_32 rfl rfl ?_
  refine EV_get (j := 3) d_Cod_add_r_33 shC_13 rfl fI4 (by decide) k_71 rfl ?_
  refine EV_iconst d_Cod_add_r_36 ⟨by decide, by decide⟩ ?_
  obtain ⟨hr, H⟩ := H
  refine EV_isub d_Cod_add_r_37 hr ?_
  exact EV_iret d_Cod_add_r_38 rfl (nw_int _) (hK _ _ H)
theorem ct_Cod_add_r {l : Launch} {o0 o1 o2 o3 rc o5 o6 o7 o8 o9 o10 : Ob} {x1 : Int} {K : Int → Ob → Prop} {K' : Option AV → List AC → Prop} (H : wp_Cod_add_r x1 rc K) (hK : ∀ (r : Int) (rc' : Ob), K r rc' → K' (some (vI r)) (shC o0 o1 o2 o3 rc' o5 o6 o7 o8 o9 o10)) : MT l ⟨"PrunedSearch$Code", "add", "(I)I"⟩ prog_4_method_3_code 2 (some .int) 0 [vR 13, vI x1] (shC o0 o1 o2 o3 rc o5 o6 o7 o8 o9 o10) K' := by
  unfold wp_Cod_add_r at H
  refine MT_of (lv := [(0, vR 13), (1, vI x1)]) rfl rfl (Nat.le_of_ble_eq_true rfl) rfl ?_
  refine EV_aload_n 0 d_Cod_add_r_0 rfl rfl ?_
  refine EV_get (j := 3) d_Cod_add_r_1 shC_13 rfl fI4 (by decide) k_71 rfl ?_
  refine EV_aload_n 0 d_Cod_add_r_4 rfl rfl ?_
  refine EV_get (j := 0) d_Cod_add_r_5 shC_13 rfl fI4 (by decide) k_68 rfl ?_
  refine EV_alen (t := 0) (by decide) d_Cod_add_r_8 shC_14 (by decide) ?_
  refine EV_icmp_ge (tgt := 32) d_Cod_add_r_9 (by decide) (fun hc => ?_) (fun hc => ?_)
  · have H := H.1 hc
    refine EV_lv (lv' := [(0, vR 13)]) [0] rfl ?_
    exact ct_Cod_add_r_32 H hK
  · have H := H.2 hc
    refine EV_aload_n 0 d_Cod_add_r_12 rfl rfl ?_
    refine EV_get (j := 0) d_Cod_add_r_13 shC_13 rfl fI4 (by decide) k_68 rfl ?_
    refine EV_aload_n 0 d_Cod_add_r_16 rfl rfl ?_
    refine EV_get (j := 3) d_Cod_add_r_17 shC_13 rfl fI4 (by decide) k_71 rfl ?_
    refine EV_iload_n 1 d_Cod_add_r_20 rfl rfl ?_
    obtain ⟨hi, H⟩ := H
    refine EV_iast d_Cod_add_r_21 shC_14 hi shC_14_s ?_
    refine EV_aload_n 0 d_Cod_add_r_22 rfl rfl ?_
    refine EV_dup d_Cod_add_r_23 rfl ?_
    refine EV_get (j := 3) d_Cod_add_r_24 shC_13 rfl fI4 (by decide) k_71 rfl ?_
    refine EV_iconst d_Cod_add_r_27 ⟨by decide, by decide⟩ ?_
    obtain ⟨hr, H⟩ := H
    refine EV_iadd d_Cod_add_r_28 hr ?_
    refine EV_put (j := 3) d_Cod_add_r_29 shC_13 rfl fI4 fO4 fN4 (by decide) k_71 rfl rfl (fun ad => nf_int ad _) (Nat.le_of_ble_eq_true rfl) shC_13_3 ?_
    refine EV_lv (lv' := [(0, vR 13)]) [0] rfl ?_
    exact ct_Cod_add_r_32 H hK
theorem ct_Nam_symbolOf_68 {l : Launch} {o0 o1 o3 o4 o5 o6 o7 o8 o9 o10 : Ob} {K : Int → Ob → Prop} {K' : Option AV → List AC → Prop} {x3 : Int} {nm : Ob} (H : Nam_symbolOf_68 x3 nm K) (hK : ∀ (r : Int) (nm' : Ob), K r nm' → K' (some (vI r)) (shC o0 o1 nm' o3 o4 o5 o6 o7 o8 o9 o10)) : EV l prog_6_method_2_code "PrunedSearch$Names" 4 (some .int) 0 68 [(3, vI x3)] [] (shC o0 o1 nm o3 o4 o5 o6 o7 o8 o9 o10) K' := by
  refine EV_iconst d_Nam_symbolOf_68 ⟨by decide, by decide⟩ ?_
  refine EV_iload_n 0 d_Nam_symbolOf_69 rfl rfl ?_
  obtain ⟨hr, H⟩ := H
  refine EV_iadd d_Nam_symbolOf_70 hr ?_
  refine EV_bipush d_Nam_symbolOf_71 (by decide +kernel) ⟨by decide, by decide⟩ ?_
  obtain ⟨hr, H⟩ := H
  refine EV_imul d_Nam_symbolOf_73 hr ?_
  exact EV_iret d_Nam_symbolOf_74 rfl (nw_int _) (hK _ _ H)
theorem ct_Nam_symbolOf_27 {l : Launch} {o0 o1 o3 o4 o5 o6 o7 o8 o9 o10 : Ob} {K : Int → Ob → Prop} {K' : Option AV → List AC → Prop} {y1 : Nat} {x3 : Int} {nm : Ob} (H : Nam_symbolOf_27 y1 x3 nm K) (hK : ∀ (r : Int) (nm' : Ob), K r nm' → K' (some (vI r)) (shC o0 o1 nm' o3 o4 o5 o6 o7 o8 o9 o10)) : EV l prog_6_method_2_code "PrunedSearch$Names" 4 (some .int) 0 27 [(0, vR 7), (1, vL y1), (3, vI x3)] [] (shC o0 o1 nm o3 o4 o5 o6 o7 o8 o9 o10) K' := by
  refine EV_iload_n 2 d_Nam_symbolOf_27 rfl rfl ?_
  refine EV_bipush d_Nam_symbolOf_28 (by decide +kernel) ⟨by decide, by decide⟩ ?_
  refine EV_icmp_ne (tgt := 43) d_Nam_symbolOf_30 (by decide) (fun hc => ?_) (fun hc => ?_)
  · have H := H.1 hc
    refine EV_iload_n 2 d_Nam_symbolOf_43 rfl rfl ?_
    refine EV_aload_n 0 d_Nam_symbolOf_44 rfl rfl ?_
    refine EV_get (j := 2) d_Nam_symbolOf_45 shC_7 rfl fI3 (by decide) k_50 rfl ?_
    refine EV_icmp_ne (tgt := 68) d_Nam_symbolOf_48 (by decide) (fun hc => ?_) (fun hc => ?_)
    · have H := H.1 hc
      refine EV_lv (lv' := [(3, vI x3)]) [2] rfl ?_
      exact ct_Nam_symbolOf_68 H hK
    · have H := H.2 hc
      refine EV_aload_n 0 d_Nam_symbolOf_51 rfl rfl ?_
      refine EV_get (j := 0) d_Nam_symbolOf_52 shC_7 rfl fI3 (by decide) k_48 rfl ?_
      refine EV_iload_n 2 d_Nam_symbolOf_55 rfl rfl ?_
      refine EV_lload_n 1 d_Nam_symbolOf_56 rfl rfl ?_
      obtain ⟨hi, H⟩ := H
      refine EV_last d_Nam_symbolOf_57 shC_8 hi shC_8_s ?_
      refine EV_aload_n 0 d_Nam_symbolOf_58 rfl rfl ?_
      refine EV_dup d_Nam_symbolOf_59 rfl ?_
      refine EV_get (j := 2) d_Nam_symbolOf_60 shC_7 rfl fI3 (by decide) k_50 rfl ?_
      refine EV_iconst d_Nam_symbolOf_63 ⟨by decide, by decide⟩ ?_
      obtain ⟨hr, H⟩ := H
      refine EV_iadd d_Nam_symbolOf_64 hr ?_
      refine EV_put (j := 2) d_Nam_symbolOf_65 shC_7 rfl fI3 fO3 fN3 (by decide) k_50 rfl rfl (fun ad => nf_int ad _) (Nat.le_of_ble_eq_true rfl) shC_7_2 ?_
      refine EV_lv (lv' := [(3, vI x3)]) [2] rfl ?_
      exact ct_Nam_symbolOf_68 H hK
  · have H := H.2 hc
    refine EV_aload_n 0 d_Nam_symbolOf_33 rfl rfl ?_
    refine EV_iconst d_Nam_symbolOf_34 ⟨by decide, by decide⟩ ?_
    refine EV_put (j := 3) d_Nam_symbolOf_35 shC_7 rfl fI3 fO3 fN3 (by decide) k_51 rfl rfl (fun ad => nf_bool ad (by decide)) (Nat.le_of_ble_eq_true rfl) shC_7_3 ?_
    refine EV_iconst d_Nam_symbolOf_38 ⟨by decide, by decide⟩ ?_
    refine EV_istore_n (lv' := [(0, vR 7), (1, vL y1), (3, vI 0)]) [1, 2, 0] d_Nam_symbolOf_39 rfl (by decide) rfl ?_
    refine EV_goto (tgt := 68) d_Nam_symbolOf_40 (by decide) ?_
    refine EV_lv (lv' := [(3, vI 0)]) [2] rfl ?_
    exact ct_Nam_symbolOf_68 H hK
theorem ct_Nam_symbolOf_2 {l : Launch} {o0 o1 o3 o4 o5 o6 o7 o8 o9 o10 : Ob} {K : Int → Ob → Prop} {K' : Option AV → List AC → Prop} (hK : ∀ (r : Int) (nm' : Ob), K r nm' → K' (some (vI r)) (shC o0 o1 nm' o3 o4 o5 o6 o7 o8 o9 o10)) : ∀ (n : Nat) (y1 : Nat) (x3 : Int) (nm : Ob), Nam_symbolOf_2 n y1 x3 nm K → EV l prog_6_method_2_code "PrunedSearch$Names" 4 (some .int) 0 2 [(0, vR 7), (1, vL y1), (3, vI x3)] [] (shC o0 o1 nm o3 o4 o5 o6 o7 o8 o9 o10) K' := by
  intro n
  induction n with
  | zero =>
    intro y1 x3 nm H
    exact H.elim
  | succ n ih =>
    intro y1 x3 nm H
    refine EV_iload_n 2 d_Nam_symbolOf_2 rfl rfl ?_
    refine EV_aload_n 0 d_Nam_symbolOf_3 rfl rfl ?_
    refine EV_get (j := 2) d_Nam_symbolOf_4 shC_7 rfl fI3 (by decide) k_50 rfl ?_
    refine EV_icmp_ge (tgt := 27) d_Nam_symbolOf_7 (by decide) (fun hc => ?_) (fun hc => ?_)
    · have H := H.1 hc
      exact ct_Nam_symbolOf_27 H hK
    · have H := H.2 hc
      refine EV_aload_n 0 d_Nam_symbolOf_10 rfl rfl ?_
      refine EV_get (j := 0) d_Nam_symbolOf_11 shC_7 rfl fI3 (by decide) k_48 rfl ?_
      refine EV_iload_n 2 d_Nam_symbolOf_14 rfl rfl ?_
      obtain ⟨hi, H⟩ := H
      refine EV_lald d_Nam_symbolOf_15 shC_8 hi ?_
      refine EV_lload_n 1 d_Nam_symbolOf_16 rfl rfl ?_
      refine EV_lcmp_eq (tgt := 27) d_Nam_symbolOf_17 d_Nam_symbolOf_18 (by decide) (fun hc => ?_) (fun hc => ?_)
      · have H := H.1 hc
        exact ct_Nam_symbolOf_27 H hK
      · have H := H.2 hc
        obtain ⟨hr, H⟩ := H
        refine EV_iinc (lv' := [(0, vR 7), (1, vL y1), (3, vI (x3 + 1))]) 2 [1, 2, 0] d_Nam_symbolOf_21 rfl (by decide) hr rfl ?_
        refine EV_goto (tgt := 2) d_Nam_symbolOf_24 (by decide) ?_
        exact ih y1 (x3 + 1) nm H
theorem ct_Nam_symbolOf {l : Launch} {o0 o1 nm o3 o4 o5 o6 o7 o8 o9 o10 : Ob} {y1 : Nat} {K : Int → Ob → Prop} {K' : Option AV → List AC → Prop} (H : wp_Nam_symbolOf y1 nm K) (hK : ∀ (r : Int) (nm' : Ob), K r nm' → K' (some (vI r)) (shC o0 o1 nm' o3 o4 o5 o6 o7 o8 o9 o10)) : MT l ⟨"PrunedSearch$Names", "symbolOf", "(J)I"⟩ prog_6_method_2_code 4 (some .int) 0 [vR 7, vL y1] (shC o0 o1 nm o3 o4 o5 o6 o7 o8 o9 o10) K' := by
  unfold wp_Nam_symbolOf at H
  refine MT_of (lv := [(0, vR 7), (1, vL y1)]) rfl rfl (Nat.le_of_ble_eq_true rfl) rfl ?_
  refine EV_iconst d_Nam_symbolOf_0 ⟨by decide, by decide⟩ ?_
  refine EV_istore_n (lv' := [(0, vR 7), (1, vL y1), (3, vI 0)]) [1, 2, 0] d_Nam_symbolOf_1 rfl (by decide) rfl ?_
  obtain ⟨n, H⟩ := H
  exact ct_Nam_symbolOf_2 hK n y1 0 nm H
theorem ct_Rd_enter {l : Launch} {o0 o1 o2 o3 o4 rd o6 o7 o8 o9 o10 : Ob} {K : Int → Ob → Prop} {K' : Option AV → List AC → Prop} (H : wp_Rd_enter rd K) (hK : ∀ (r : Int) (rd' : Ob), K r rd' → K' (some (vI r)) (shC o0 o1 o2 o3 o4 rd' o6 o7 o8 o9 o10)) : MT l ⟨"PrunedSearch$ClauseReader", "enter", "()Z"⟩ prog_3_method_14_code 1 (some .boolean) 0 [vR 17] (shC o0 o1 o2 o3 o4 rd o6 o7 o8 o9 o10) K' := by
  unfold wp_Rd_enter at H
  refine MT_of (lv := [(0, vR 17)]) rfl rfl (Nat.le_of_ble_eq_true rfl) rfl ?_
  refine EV_aload_n 0 d_Rd_enter_0 rfl rfl ?_
  refine EV_get (j := 7) d_Rd_enter_1 shC_17 rfl fI5 (by decide) k_119 rfl ?_
  refine EV_bipush d_Rd_enter_4 (by decide +kernel) ⟨by decide, by decide⟩ ?_
  refine EV_icmp_lt (tgt := 11) d_Rd_enter_6 (by decide) (fun hc => ?_) (fun hc => ?_)
  · have H := H.1 hc
    refine EV_aload_n 0 d_Rd_enter_11 rfl rfl ?_
    refine EV_dup d_Rd_enter_12 rfl ?_
    refine EV_get (j := 7) d_Rd_enter_13 shC_17 rfl fI5 (by decide) k_119 rfl ?_
    refine EV_iconst d_Rd_enter_16 ⟨by decide, by decide⟩ ?_
    obtain ⟨hr, H⟩ := H
    refine EV_iadd d_Rd_enter_17 hr ?_
    refine EV_put (j := 7) d_Rd_enter_18 shC_17 rfl fI5 fO5 fN5 (by decide) k_119 rfl rfl (fun ad => nf_int ad _) (Nat.le_of_ble_eq_true rfl) shC_17_7 ?_
    refine EV_aload_n 0 d_Rd_enter_21 rfl rfl ?_
    refine EV_dup d_Rd_enter_22 rfl ?_
    refine EV_get (j := 8) d_Rd_enter_23 shC_17 rfl fI5 (by decide) k_120 rfl ?_
    refine EV_iconst d_Rd_enter_26 ⟨by decide, by decide⟩ ?_
    obtain ⟨hr, H⟩ := H
    refine EV_iadd d_Rd_enter_27 hr ?_
    refine EV_put (j := 8) d_Rd_enter_28 shC_17 rfl fI5 fO5 fN5 (by decide) k_120 rfl rfl (fun ad => nf_int ad _) (Nat.le_of_ble_eq_true rfl) shC_17_8 ?_
    refine EV_iconst d_Rd_enter_31 ⟨by decide, by decide⟩ ?_
    exact EV_iret d_Rd_enter_32 rfl (nw_bool (by decide)) (hK _ _ H)
  · have H := H.2 hc
    refine EV_iconst d_Rd_enter_9 ⟨by decide, by decide⟩ ?_
    exact EV_iret d_Rd_enter_10 rfl (nw_bool (by decide)) (hK _ _ H)
theorem ct_Rd_accept {l : Launch} {o0 tk o2 o3 o4 rd o6 o7 o8 o9 o10 : Ob} {x1 : Int} {K : Int → Ob → Prop} {K' : Option AV → List AC → Prop} (H : wp_Rd_accept x1 tk rd K) (hK : ∀ (r : Int) (rd' : Ob), K r rd' → K' (some (vI r)) (shC o0 tk o2 o3 o4 rd' o6 o7 o8 o9 o10)) : MT l ⟨"PrunedSearch$ClauseReader", "accept", "(C)Z"⟩ prog_3_method_17_code 2 (some .boolean) 1 [vR 17, vI x1] (shC o0 tk o2 o3 o4 rd o6 o7 o8 o9 o10) K' := by
  unfold wp_Rd_accept at H
  refine MT_of (lv := [(0, vR 17), (1, vI x1)]) rfl rfl (Nat.le_of_ble_eq_true rfl) rfl ?_
  refine EV_aload_n 0 d_Rd_accept_0 rfl rfl ?_
  refine EV_get (j := 1) d_Rd_accept_1 shC_17 rfl fI5 (by decide) k_113 rfl ?_
  refine EV_aload_n 0 d_Rd_accept_4 rfl rfl ?_
  refine EV_get (j := 8) d_Rd_accept_5 shC_17 rfl fI5 (by decide) k_120 rfl ?_
  refine EV_callV (as := [vI (rd.1 4)]) (st := []) d_Rd_accept_8 k_517 k_518 k_519 k_6 k_520 shC_3 rfl pd_71 ⟨by decide, by decide, Nat.le_of_ble_eq_true rfl⟩ rfl (ct_Tok_kindAt H (fun r_1 H => ?_))
  refine EV_iload_n 1 d_Rd_accept_11 rfl rfl ?_
  refine EV_icmp_eq (tgt := 17) d_Rd_accept_12 (by decide) (fun hc => ?_) (fun hc => ?_)
  · have H := H.1 hc
    refine EV_aload_n 0 d_Rd_accept_17 rfl rfl ?_
    refine EV_dup d_Rd_accept_18 rfl ?_
    refine EV_get (j := 8) d_Rd_accept_19 shC_17 rfl fI5 (by decide) k_120 rfl ?_
    refine EV_iconst d_Rd_accept_22 ⟨by decide, by decide⟩ ?_
    obtain ⟨hr, H⟩ := H
    refine EV_iadd d_Rd_accept_23 hr ?_
    refine EV_put (j := 8) d_Rd_accept_24 shC_17 rfl fI5 fO5 fN5 (by decide) k_120 rfl rfl (fun ad => nf_int ad _) (Nat.le_of_ble_eq_true rfl) shC_17_8 ?_
    refine EV_iconst d_Rd_accept_27 ⟨by decide, by decide⟩ ?_
    exact EV_iret d_Rd_accept_28 rfl (nw_bool (by decide)) (hK _ _ H)
  · have H := H.2 hc
    refine EV_iconst d_Rd_accept_15 ⟨by decide, by decide⟩ ?_
    exact EV_iret d_Rd_accept_16 rfl (nw_bool (by decide)) (hK _ _ H)
theorem ct_Cod_setArguments_r {l : Launch} {o0 o1 o2 o3 rc o5 o6 o7 o8 o9 o10 : Ob} {x1 : Int} {x2 : Int} {K : Ob → Prop} {K' : Option AV → List AC → Prop} (H : wp_Cod_setArguments_r x1 x2 rc K) (hK : ∀ (rc' : Ob), K rc' → K' none (shC o0 o1 o2 o3 rc' o5 o6 o7 o8 o9 o10)) : MT l ⟨"PrunedSearch$Code", "setArguments", "(II)V"⟩ prog_4_method_4_code 3 none 0 [vR 13, vI x1, vI x2] (shC o0 o1 o2 o3 rc o5 o6 o7 o8 o9 o10) K' := by
  unfold wp_Cod_setArguments_r at H
  refine MT_of (lv := [(0, vR 13), (1, vI x1), (2, vI x2)]) rfl rfl (Nat.le_of_ble_eq_true rfl) rfl ?_
  refine EV_iload_n 1 d_Cod_setArguments_r_0 rfl rfl ?_
  refine EV_if_lt (tgt := 22) d_Cod_setArguments_r_1 (by decide) (fun hc => ?_) (fun hc => ?_)
  · have H := H.1 hc
    exact EV_vret d_Cod_setArguments_r_22 rfl (hK _ H)
  · have H := H.2 hc
    refine EV_iload_n 1 d_Cod_setArguments_r_4 rfl rfl ?_
    refine EV_aload_n 0 d_Cod_setArguments_r_5 rfl rfl ?_
    refine EV_get (j := 3) d_Cod_setArguments_r_6 shC_13 rfl fI4 (by decide) k_71 rfl ?_
    refine EV_icmp_ge (tgt := 22) d_Cod_setArguments_r_9 (by decide) (fun hc => ?_) (fun hc => ?_)
    · have H := H.1 hc
      exact EV_vret d_Cod_setArguments_r_22 rfl (hK _ H)
    · have H := H.2 hc
      refine EV_aload_n 0 d_Cod_setArguments_r_12 rfl rfl ?_
      refine EV_get (j := 0) d_Cod_setArguments_r_13 shC_13 rfl fI4 (by decide) k_68 rfl ?_
      refine EV_iload_n 1 d_Cod_setArguments_r_16 rfl rfl ?_
      refine EV_dup2 d_Cod_setArguments_r_17 rfl rfl ?_
      obtain ⟨hi, H⟩ := H
      refine EV_iald d_Cod_setArguments_r_18 shC_14 hi ?_
      refine EV_iload_n 2 d_Cod_setArguments_r_19 rfl rfl ?_
      obtain ⟨hr, H⟩ := H
      refine EV_iadd d_Cod_setArguments_r_20 hr ?_
      obtain ⟨hi, H⟩ := H
      refine EV_iast d_Cod_setArguments_r_21 shC_14 hi shC_14_s ?_
      exact EV_vret d_Cod_setArguments_r_22 rfl (hK _ H)
theorem ct_Rd_readArguments_68 {l : Launch} {dn : Nat} {RT : Ob → Ob → Ob → Ob → (Int → Ob → Ob → Ob → Prop) → Prop} (hd6 : 8 ≤ dn) (hRT : ∀ (o0 o1 o2 o3 o4 o5 o6 o7 o8 o9 o10 : Ob) (K : Int → Ob → Ob → Ob → Prop) (K' : Option AV → List AC → Prop), RT o1 o2 o4 o5 K → (∀ (r : Int) (o2' o4' o5' : Ob), K r o2' o4' o5' → K' (some (vI r)) (shC o0 o1 o2' o3 o4' o5' o6 o7 o8 o9 o10)) → MT l ⟨"PrunedSearch$ClauseReader", "readTerm", "()Z"⟩ prog_3_method_11_code 2 (some .boolean) dn [vR 17] (shC o0 o1 o2 o3 o4 o5 o6 o7 o8 o9 o10) K') {o0 tk o3 o6 o7 o8 o9 o10 : Ob} {K : Int → Ob → Ob → Ob → Prop} {K' : Option AV → List AC → Prop} {x1 : Int} {x2 : Int} {s0 : Int} {s1 : Int} {nm rc rd : Ob} (H : Rd_readArguments_68 RT x1 x2 s0 s1 tk nm rc rd K) (hK : ∀ (r : Int) (nm' rc' rd' : Ob), K r nm' rc' rd' → K' (some (vI r)) (shC o0 tk nm' o3 rc' rd' o6 o7 o8 o9 o10)) : EV l prog_3_method_12_code "PrunedSearch$ClauseReader" 5 (some .boolean) (dn + 1) 68 [(0, vR 17), (1, vI x1), (2, vI x2)] [vI s0, vI s1, vR 17] (shC o0 tk nm o3 rc rd o6 o7 o8 o9 o10) K' := by
  obtain ⟨h0, h1, H⟩ := H
  refine EV_ior d_Rd_readArguments_68 h0 h1 ?_
  obtain ⟨hb, H⟩ := H
  refine EV_put (j := 9) d_Rd_readArguments_69 shC_17 rfl fI5 fO5 fN5 (by decide) k_121 rfl rfl (fun ad => nf_bool ad hb) (Nat.le_of_ble_eq_true rfl) shC_17_9 ?_
  refine EV_aload_n 0 d_Rd_readArguments_72 rfl rfl ?_
  refine EV_get (j := 2) d_Rd_readArguments_73 shC_17 rfl fI5 (by decide) k_114 rfl ?_
  refine EV_iload_n 1 d_Rd_readArguments_76 rfl rfl ?_
  refine EV_iload_n 2 d_Rd_readArguments_77 rfl rfl ?_
  refine EV_iconst d_Rd_readArguments_78 ⟨by decide, by decide⟩ ?_
  refine EV_mmin (st := [vI x1, vR 13]) d_Rd_readArguments_79 k_558 k_386 k_15 k_387 ⟨by omega, Nat.le_of_ble_eq_true rfl⟩ ?_
  refine EV_callV (as := [vI x1, vI (min x2 (4 : Int))]) (st := []) d_Rd_readArguments_82 k_559 k_560 k_561 k_4 k_562 shC_13 rfl pd_73 ⟨by omega, by decide, Nat.le_of_ble_eq_true rfl⟩ rfl (ct_Cod_setArguments_r H (fun rc_3 H => ?_))
  refine EV_aload_n 0 d_Rd_readArguments_85 rfl rfl ?_
  refine EV_dup d_Rd_readArguments_86 rfl ?_
  refine EV_get (j := 7) d_Rd_readArguments_87 shC_17 rfl fI5 (by decide) k_119 rfl ?_
  refine EV_iconst d_Rd_readArguments_90 ⟨by decide, by decide⟩ ?_
  obtain ⟨hr, H⟩ := H
  refine EV_isub d_Rd_readArguments_91 hr ?_
  refine EV_put (j := 7) d_Rd_readArguments_92 shC_17 rfl fI5 fO5 fN5 (by decide) k_119 rfl rfl (fun ad => nf_int ad _) (Nat.le_of_ble_eq_true rfl) shC_17_7 ?_
  refine EV_aload_n 0 d_Rd_readArguments_95 rfl rfl ?_
  refine EV_bipush d_Rd_readArguments_96 (by decide +kernel) ⟨by decide, by decide⟩ ?_
  refine EV_callV (as := [vI 41]) (st := []) d_Rd_readArguments_98 k_554 k_556 kp_11 k_5 k_557 shC_17 rfl pd_72 ⟨by omega, by decide, Nat.le_of_ble_eq_true rfl⟩ rfl (ct_Rd_accept H (fun r_5 rd_4 H => ?_))
  obtain ⟨hb, H⟩ := H
  exact EV_iret d_Rd_readArguments_101 rfl (nw_bool hb) (hK _ _ _ _ H)
theorem ct_Rd_readArguments_53 {l : Launch} {dn : Nat} {RT : Ob → Ob → Ob → Ob → (Int → Ob → Ob → Ob → Prop) → Prop} (hd6 : 8 ≤ dn) (hRT : ∀ (o0 o1 o2 o3 o4 o5 o6 o7 o8 o9 o10 : Ob) (K : Int → Ob → Ob → Ob → Prop) (K' : Option AV → List AC → Prop), RT o1 o2 o4 o5 K → (∀ (r : Int) (o2' o4' o5' : Ob), K r o2' o4' o5' → K' (some (vI r)) (shC o0 o1 o2' o3 o4' o5' o6 o7 o8 o9 o10)) → MT l ⟨"PrunedSearch$ClauseReader", "readTerm", "()Z"⟩ prog_3_method_11_code 2 (some .boolean) dn [vR 17] (shC o0 o1 o2 o3 o4 o5 o6 o7 o8 o9 o10) K') {o0 tk o3 o6 o7 o8 o9 o10 : Ob} {K : Int → Ob → Ob → Ob → Prop} {K' : Option AV → List AC → Prop} {x1 : Int} {x2 : Int} {nm rc rd : Ob} (H : Rd_readArguments_53 RT x1 x2 tk nm rc rd K) (hK : ∀ (r : Int) (nm' rc' rd' : Ob), K r nm' rc' rd' → K' (some (vI r)) (shC o0 tk nm' o3 rc' rd' o6 o7 o8 o9 o10)) : EV l prog_3_method_12_code "PrunedSearch$ClauseReader" 5 (some .boolean) (dn + 1) 53 [(0, vR 17), (1, vI x1), (2, vI x2)] [] (shC o0 tk nm o3 rc rd o6 o7 o8 o9 o10) K' := by
  refine EV_aload_n 0 d_Rd_readArguments_53 rfl rfl ?_
  refine EV_dup d_Rd_readArguments_54 rfl ?_
  refine EV_get (j := 9) d_Rd_readArguments_55 shC_17 rfl fI5 (by decide) k_121 rfl ?_
  refine EV_iload_n 2 d_Rd_readArguments_58 rfl rfl ?_
  refine EV_iconst d_Rd_readArguments_59 ⟨by decide, by decide⟩ ?_
  refine EV_icmp_le (tgt := 67) d_Rd_readArguments_60 (by decide) (fun hc => ?_) (fun hc => ?_)
  · have H := H.1 hc
    refine EV_iconst d_Rd_readArguments_67 ⟨by decide, by decide⟩ ?_
    exact ct_Rd_readArguments_68 hd6 hRT H hK
  · have H := H.2 hc
    refine EV_iconst d_Rd_readArguments_63 ⟨by decide, by decide⟩ ?_
    refine EV_goto (tgt := 68) d_Rd_readArguments_64 (by decide) ?_
    exact ct_Rd_readArguments_68 hd6 hRT H hK
theorem ct_Rd_readArguments_16 {l : Launch} {dn : Nat} {RT : Ob → Ob → Ob → Ob → (Int → Ob → Ob → Ob → Prop) → Prop} (hd6 : 8 ≤ dn) (hRT : ∀ (o0 o1 o2 o3 o4 o5 o6 o7 o8 o9 o10 : Ob) (K : Int → Ob → Ob → Ob → Prop) (K' : Option AV → List AC → Prop), RT o1 o2 o4 o5 K → (∀ (r : Int) (o2' o4' o5' : Ob), K r o2' o4' o5' → K' (some (vI r)) (shC o0 o1 o2' o3 o4' o5' o6 o7 o8 o9 o10)) → MT l ⟨"PrunedSearch$ClauseReader", "readTerm", "()Z"⟩ prog_3_method_11_code 2 (some .boolean) dn [vR 17] (shC o0 o1 o2 o3 o4 o5 o6 o7 o8 o9 o10) K') {o0 tk o3 o6 o7 o8 o9 o10 : Ob} {K : Int → Ob → Ob → Ob → Prop} {K' : Option AV → List AC → Prop} (hK : ∀ (r : Int) (nm' rc' rd' : Ob), K r nm' rc' rd' → K' (some (vI r)) (shC o0 tk nm' o3 rc' rd' o6 o7 o8 o9 o10)) : ∀ (n : Nat) (x1 : Int) (x2 : Int) (x3 : Int) (x4 : Int) (nm rc rd : Ob), Rd_readArguments_16 RT n x1 x2 x3 x4 tk nm rc rd K → EV l prog_3_method_12_code "PrunedSearch$ClauseReader" 5 (some .boolean) (dn + 1) 16 [(0, vR 17), (1, vI x1), (2, vI x2), (3, vI x3), (4, vI x4)] [] (shC o0 tk nm o3 rc rd o6 o7 o8 o9 o10) K' := by
  intro n
  induction n with
  | zero =>
    intro x1 x2 x3 x4 nm rc rd H
    exact H.elim
  | succ n ih =>
    intro x1 x2 x3 x4 nm rc rd H
    refine EV_iload 4 d_Rd_readArguments_16 rfl ?_
    refine EV_sipush d_Rd_readArguments_18 (by decide +kernel) ⟨by decide, by decide⟩ ?_
    refine EV_icmp_ge (tgt := 53) d_Rd_readArguments_21 (by decide) (fun hc => ?_) (fun hc => ?_)
    · have H := H.1 hc
      refine EV_lv (lv' := [(0, vR 17), (1, vI x1), (2, vI x2)]) [0, 1, 2] rfl ?_
      exact ct_Rd_readArguments_53 hd6 hRT H hK
    · have H := H.2 hc
      refine EV_iload_n 3 d_Rd_readArguments_24 rfl rfl ?_
      refine EV_if_eq (tgt := 53) d_Rd_readArguments_25 (by decide) (fun hc => ?_) (fun hc => ?_)
      · have H := H.1 hc
        refine EV_lv (lv' := [(0, vR 17), (1, vI x1), (2, vI x2)]) [0, 1, 2] rfl ?_
        exact ct_Rd_readArguments_53 hd6 hRT H hK
      · have H := H.2 hc
        refine EV_aload_n 0 d_Rd_readArguments_28 rfl rfl ?_
        refine EV_callV (as := []) (st := []) d_Rd_readArguments_29 k_525 k_527 kp_7 k_5 k_528 shC_17 rfl pd_74 ⟨by omega, by decide, Nat.le_of_ble_eq_true rfl⟩ rfl (hRT _ _ _ _ _ _ _ _ _ _ _ _ _ H (fun r_9 nm_6 rc_7 rd_8 H => ?_))
        refine EV_if_ne (tgt := 37) d_Rd_readArguments_32 (by decide) (fun hc => ?_) (fun hc => ?_)
        · have H := H.1 hc
          obtain ⟨hr, H⟩ := H
          refine EV_iinc (lv' := [(0, vR 17), (1, vI x1), (2, vI (x2 + 1)), (3, vI x3), (4, vI x4)]) 2 [1, 2, 0, 3, 4] d_Rd_readArguments_37 rfl (by decide) hr rfl ?_
          refine EV_aload_n 0 d_Rd_readArguments_40 rfl rfl ?_
          refine EV_bipush d_Rd_readArguments_41 (by decide +kernel) ⟨by decide, by decide⟩ ?_
          refine EV_callV (as := [vI 44]) (st := []) d_Rd_readArguments_43 k_554 k_556 kp_11 k_5 k_557 shC_17 rfl pd_72 ⟨by omega, by decide, Nat.le_of_ble_eq_true rfl⟩ rfl (ct_Rd_accept H (fun r_11 rd_10 H => ?_))
          refine EV_istore_n (lv' := [(0, vR 17), (1, vI x1), (2, vI (x2 + 1)), (3, vI r_11), (4, vI x4)]) [1, 2, 3, 0, 4] d_Rd_readArguments_46 rfl (by decide) rfl ?_
          obtain ⟨hr, H⟩ := H
          refine EV_iinc (lv' := [(0, vR 17), (1, vI x1), (2, vI (x2 + 1)), (3, vI r_11), (4, vI (x4 + 1))]) 4 [1, 2, 3, 4, 0] d_Rd_readArguments_47 rfl (by decide) hr rfl ?_
          refine EV_goto (tgt := 16) d_Rd_readArguments_50 (by decide) ?_
          exact ih x1 (x2 + 1) r_11 (x4 + 1) nm_6 rc_7 rd_10 H
        · have H := H.2 hc
          refine EV_iconst d_Rd_readArguments_35 ⟨by decide, by decide⟩ ?_
          exact EV_iret d_Rd_readArguments_36 rfl (nw_bool (by decide)) (hK _ _ _ _ H)
theorem ct_Rd_readArguments {l : Launch} {dn : Nat} {RT : Ob → Ob → Ob → Ob → (Int → Ob → Ob → Ob → Prop) → Prop} (hd6 : 8 ≤ dn) (hRT : ∀ (o0 o1 o2 o3 o4 o5 o6 o7 o8 o9 o10 : Ob) (K : Int → Ob → Ob → Ob → Prop) (K' : Option AV → List AC → Prop), RT o1 o2 o4 o5 K → (∀ (r : Int) (o2' o4' o5' : Ob), K r o2' o4' o5' → K' (some (vI r)) (shC o0 o1 o2' o3 o4' o5' o6 o7 o8 o9 o10)) → MT l ⟨"PrunedSearch$ClauseReader", "readTerm", "()Z"⟩ prog_3_method_11_code 2 (some .boolean) dn [vR 17] (shC o0 o1 o2 o3 o4 o5 o6 o7 o8 o9 o10) K') {o0 tk nm o3 rc rd o6 o7 o8 o9 o10 : Ob} {x1 : Int} {K : Int → Ob → Ob → Ob → Prop} {K' : Option AV → List AC → Prop} (H : wp_Rd_readArguments RT x1 tk nm rc rd K) (hK : ∀ (r : Int) (nm' rc' rd' : Ob), K r nm' rc' rd' → K' (some (vI r)) (shC o0 tk nm' o3 rc' rd' o6 o7 o8 o9 o10)) : MT l ⟨"PrunedSearch$ClauseReader", "readArguments", "(I)Z"⟩ prog_3_method_12_code 5 (some .boolean) (dn + 1) [vR 17, vI x1] (shC o0 tk nm o3 rc rd o6 o7 o8 o9 o10) K' := by
  unfold wp_Rd_readArguments at H
  refine MT_of (lv := [(0, vR 17), (1, vI x1)]) rfl rfl (Nat.le_of_ble_eq_true rfl) rfl ?_
  refine EV_aload_n 0 d_Rd_readArguments_0 rfl rfl ?_
  refine EV_callV (as := []) (st := []) d_Rd_readArguments_1 k_550 k_552 kp_10 k_5 k_553 shC_17 rfl pd_75 ⟨by omega, by decide, Nat.le_of_ble_eq_true rfl⟩ rfl (ct_Rd_enter H (fun r_2 rd_1 H => ?_))
  refine EV_if_ne (tgt := 9) d_Rd_readArguments_4 (by decide) (fun hc => ?_) (fun hc => ?_)
  · have H := H.1 hc
    refine EV_iconst d_Rd_readArguments_9 ⟨by decide, by decide⟩ ?_
    refine EV_istore_n (lv' := [(0, vR 17), (1, vI x1), (2, vI 0)]) [1, 2, 0] d_Rd_readArguments_10 rfl (by decide) rfl ?_
    refine EV_iconst d_Rd_readArguments_11 ⟨by decide, by decide⟩ ?_
    refine EV_istore_n (lv' := [(0, vR 17), (1, vI x1), (2, vI 0), (3, vI 1)]) [1, 2, 3, 0] d_Rd_readArguments_12 rfl (by decide) rfl ?_
    refine EV_iconst d_Rd_readArguments_13 ⟨by decide, by decide⟩ ?_
    refine EV_istore (lv' := [(0, vR 17), (1, vI x1), (2, vI 0), (3, vI 1), (4, vI 0)]) [1, 2, 3, 4, 0] d_Rd_readArguments_14 (by decide) rfl ?_
    obtain ⟨n, H⟩ := H
    exact ct_Rd_readArguments_16 hd6 hRT hK n x1 0 1 0 nm rc rd_1 H
  · have H := H.2 hc
    refine EV_iconst d_Rd_readArguments_7 ⟨by decide, by decide⟩ ?_
    exact EV_iret d_Rd_readArguments_8 rfl (nw_bool (by decide)) (hK _ _ _ _ H)
theorem ct_Rd_readList_99 {l : Launch} {dn : Nat} {RT : Ob → Ob → Ob → Ob → (Int → Ob → Ob → Ob → Prop) → Prop} (hd6 : 8 ≤ dn) (hRT : ∀ (o0 o1 o2 o3 o4 o5 o6 o7 o8 o9 o10 : Ob) (K : Int → Ob → Ob → Ob → Prop) (K' : Option AV → List AC → Prop), RT o1 o2 o4 o5 K → (∀ (r : Int) (o2' o4' o5' : Ob), K r o2' o4' o5' → K' (some (vI r)) (shC o0 o1 o2' o3 o4' o5' o6 o7 o8 o9 o10)) → MT l ⟨"PrunedSearch$ClauseReader", "readTerm", "()Z"⟩ prog_3_method_11_code 2 (some .boolean) dn [vR 17] (shC o0 o1 o2 o3 o4 o5 o6 o7 o8 o9 o10) K') {o0 tk o3 o6 o7 o8 o9 o10 : Ob} {K : Int → Ob → Ob → Ob → Prop} {K' : Option AV → List AC → Prop} {nm rc rd : Ob} (H : Rd_readList_99 RT tk nm rc rd K) (hK : ∀ (r : Int) (nm' rc' rd' : Ob), K r nm' rc' rd' → K' (some (vI r)) (shC o0 tk nm' o3 rc' rd' o6 o7 o8 o9 o10)) : EV l prog_3_method_13_code "PrunedSearch$ClauseReader" 3 (some .boolean) (dn + 1) 99 [(0, vR 17)] [] (shC o0 tk nm o3 rc rd o6 o7 o8 o9 o10) K' := by
  refine EV_aload_n 0 d_Rd_readList_99 rfl rfl ?_
  refine EV_dup d_Rd_readList_100 rfl ?_
  refine EV_get (j := 7) d_Rd_readList_101 shC_17 rfl fI5 (by decide) k_119 rfl ?_
  refine EV_iconst d_Rd_readList_104 ⟨by decide, by decide⟩ ?_
  obtain ⟨hr, H⟩ := H
  refine EV_isub d_Rd_readList_105 hr ?_
  refine EV_put (j := 7) d_Rd_readList_106 shC_17 rfl fI5 fO5 fN5 (by decide) k_119 rfl rfl (fun ad => nf_int ad _) (Nat.le_of_ble_eq_true rfl) shC_17_7 ?_
  refine EV_aload_n 0 d_Rd_readList_109 rfl rfl ?_
  refine EV_bipush d_Rd_readList_110 (by decide +kernel) ⟨by decide, by decide⟩ ?_
  refine EV_callV (as := [vI 93]) (st := []) d_Rd_readList_112 k_554 k_556 kp_11 k_5 k_557 shC_17 rfl pd_72 ⟨by omega, by decide, Nat.le_of_ble_eq_true rfl⟩ rfl (ct_Rd_accept H (fun r_11 rd_10 H => ?_))
  obtain ⟨hb, H⟩ := H
  exact EV_iret d_Rd_readList_115 rfl (nw_bool hb) (hK _ _ _ _ H)
theorem ct_Rd_readList_69 {l : Launch} {dn : Nat} {RT : Ob → Ob → Ob → Ob → (Int → Ob → Ob → Ob → Prop) → Prop} (hd6 : 8 ≤ dn) (hRT : ∀ (o0 o1 o2 o3 o4 o5 o6 o7 o8 o9 o10 : Ob) (K : Int → Ob → Ob → Ob → Prop) (K' : Option AV → List AC → Prop), RT o1 o2 o4 o5 K → (∀ (r : Int) (o2' o4' o5' : Ob), K r o2' o4' o5' → K' (some (vI r)) (shC o0 o1 o2' o3 o4' o5' o6 o7 o8 o9 o10)) → MT l ⟨"PrunedSearch$ClauseReader", "readTerm", "()Z"⟩ prog_3_method_11_code 2 (some .boolean) dn [vR 17] (shC o0 o1 o2 o3 o4 o5 o6 o7 o8 o9 o10) K') {o0 tk o3 o6 o7 o8 o9 o10 : Ob} {K : Int → Ob → Ob → Ob → Prop} {K' : Option AV → List AC → Prop} {nm rc rd : Ob} (H : Rd_readList_69 RT tk nm rc rd K) (hK : ∀ (r : Int) (nm' rc' rd' : Ob), K r nm' rc' rd' → K' (some (vI r)) (shC o0 tk nm' o3 rc' rd' o6 o7 o8 o9 o10)) : EV l prog_3_method_13_code "PrunedSearch$ClauseReader" 3 (some .boolean) (dn + 1) 69 [(0, vR 17)] [] (shC o0 tk nm o3 rc rd o6 o7 o8 o9 o10) K' := by
  refine EV_aload_n 0 d_Rd_readList_69 rfl rfl ?_
  refine EV_bipush d_Rd_readList_70 (by decide +kernel) ⟨by decide, by decide⟩ ?_
  refine EV_callV (as := [vI 124]) (st := []) d_Rd_readList_72 k_554 k_556 kp_11 k_5 k_557 shC_17 rfl pd_72 ⟨by omega, by decide, Nat.le_of_ble_eq_true rfl⟩ rfl (ct_Rd_accept H (fun r_5 rd_4 H => ?_))
  refine EV_if_ne (tgt := 90) d_Rd_readList_75 (by decide) (fun hc => ?_) (fun hc => ?_)
  · have H := H.1 hc
    refine EV_aload_n 0 d_Rd_readList_90 rfl rfl ?_
    refine EV_callV (as := []) (st := []) d_Rd_readList_91 k_525 k_527 kp_7 k_5 k_528 shC_17 rfl pd_74 ⟨by omega, by decide, Nat.le_of_ble_eq_true rfl⟩ rfl (hRT _ _ _ _ _ _ _ _ _ _ _ _ _ H (fun r_9 nm_6 rc_7 rd_8 H => ?_))
    refine EV_if_ne (tgt := 99) d_Rd_readList_94 (by decide) (fun hc => ?_) (fun hc => ?_)
    · have H := H.1 hc
      exact ct_Rd_readList_99 hd6 hRT H hK
    · have H := H.2 hc
      refine EV_iconst d_Rd_readList_97 ⟨by decide, by decide⟩ ?_
      exact EV_iret d_Rd_readList_98 rfl (nw_bool (by decide)) (hK _ _ _ _ H)
  · have H := H.2 hc
    refine EV_aload_n 0 d_Rd_readList_78 rfl rfl ?_
    refine EV_get (j := 2) d_Rd_readList_79 shC_17 rfl fI5 (by decide) k_114 rfl ?_
    refine EV_iconst d_Rd_readList_82 ⟨by decide, by decide⟩ ?_
    refine EV_callV (as := [vI 0]) (st := []) d_Rd_readList_83 k_538 k_539 k_540 k_4 k_541 shC_13 rfl pd_76 ⟨by omega, by decide, Nat.le_of_ble_eq_true rfl⟩ rfl (ct_Cod_add_r H (fun r_13 rc_12 H => ?_))
    refine EV_pop d_Rd_readList_86 rfl ?_
    refine EV_goto (tgt := 99) d_Rd_readList_87 (by decide) ?_
    exact ct_Rd_readList_99 hd6 hRT H hK
theorem ct_Rd_readList_26 {l : Launch} {dn : Nat} {RT : Ob → Ob → Ob → Ob → (Int → Ob → Ob → Ob → Prop) → Prop} (hd6 : 8 ≤ dn) (hRT : ∀ (o0 o1 o2 o3 o4 o5 o6 o7 o8 o9 o10 : Ob) (K : Int → Ob → Ob → Ob → Prop) (K' : Option AV → List AC → Prop), RT o1 o2 o4 o5 K → (∀ (r : Int) (o2' o4' o5' : Ob), K r o2' o4' o5' → K' (some (vI r)) (shC o0 o1 o2' o3 o4' o5' o6 o7 o8 o9 o10)) → MT l ⟨"PrunedSearch$ClauseReader", "readTerm", "()Z"⟩ prog_3_method_11_code 2 (some .boolean) dn [vR 17] (shC o0 o1 o2 o3 o4 o5 o6 o7 o8 o9 o10) K') {o0 tk o3 o6 o7 o8 o9 o10 : Ob} {K : Int → Ob → Ob → Ob → Prop} {K' : Option AV → List AC → Prop} (hK : ∀ (r : Int) (nm' rc' rd' : Ob), K r nm' rc' rd' → K' (some (vI r)) (shC o0 tk nm' o3 rc' rd' o6 o7 o8 o9 o10)) : ∀ (n : Nat) (x1 : Int) (x2 : Int) (nm rc rd : Ob), Rd_readList_26 RT n x1 x2 tk nm rc rd K → EV l prog_3_method_13_code "PrunedSearch$ClauseReader" 3 (some .boolean) (dn + 1) 26 [(0, vR 17), (1, vI x1), (2, vI x2)] [] (shC o0 tk nm o3 rc rd o6 o7 o8 o9 o10) K' := by
  intro n
  induction n with
  | zero =>
    intro x1 x2 nm rc rd H
    exact H.elim
  | succ n ih =>
    intro x1 x2 nm rc rd H
    refine EV_iload_n 2 d_Rd_readList_26 rfl rfl ?_
    refine EV_sipush d_Rd_readList_27 (by decide +kernel) ⟨by decide, by decide⟩ ?_
    refine EV_icmp_ge (tgt := 69) d_Rd_readList_30 (by decide) (fun hc => ?_) (fun hc => ?_)
    · have H := H.1 hc
      refine EV_lv (lv' := [(0, vR 17)]) [0] rfl ?_
      exact ct_Rd_readList_69 hd6 hRT H hK
    · have H := H.2 hc
      refine EV_iload_n 1 d_Rd_readList_33 rfl rfl ?_
      refine EV_if_eq (tgt := 69) d_Rd_readList_34 (by decide) (fun hc => ?_) (fun hc => ?_)
      · have H := H.1 hc
        refine EV_lv (lv' := [(0, vR 17)]) [0] rfl ?_
        exact ct_Rd_readList_69 hd6 hRT H hK
      · have H := H.2 hc
        refine EV_aload_n 0 d_Rd_readList_37 rfl rfl ?_
        refine EV_get (j := 2) d_Rd_readList_38 shC_17 rfl fI5 (by decide) k_114 rfl ?_
        refine EV_bipush d_Rd_readList_41 (by decide +kernel) ⟨by decide, by decide⟩ ?_
        refine EV_callV (as := [vI 10]) (st := []) d_Rd_readList_43 k_538 k_539 k_540 k_4 k_541 shC_13 rfl pd_76 ⟨by omega, by decide, Nat.le_of_ble_eq_true rfl⟩ rfl (ct_Cod_add_r H (fun r_15 rc_14 H => ?_))
        refine EV_pop d_Rd_readList_46 rfl ?_
        refine EV_aload_n 0 d_Rd_readList_47 rfl rfl ?_
        refine EV_callV (as := []) (st := []) d_Rd_readList_48 k_525 k_527 kp_7 k_5 k_528 shC_17 rfl pd_74 ⟨by omega, by decide, Nat.le_of_ble_eq_true rfl⟩ rfl (hRT _ _ _ _ _ _ _ _ _ _ _ _ _ H (fun r_19 nm_16 rc_17 rd_18 H => ?_))
        refine EV_if_ne (tgt := 56) d_Rd_readList_51 (by decide) (fun hc => ?_) (fun hc => ?_)
        · have H := H.1 hc
          refine EV_aload_n 0 d_Rd_readList_56 rfl rfl ?_
          refine EV_bipush d_Rd_readList_57 (by decide +kernel) ⟨by decide, by decide⟩ ?_
          refine EV_callV (as := [vI 44]) (st := []) d_Rd_readList_59 k_554 k_556 kp_11 k_5 k_557 shC_17 rfl pd_72 ⟨by omega, by decide, Nat.le_of_ble_eq_true rfl⟩ rfl (ct_Rd_accept H (fun r_21 rd_20 H => ?_))
          refine EV_istore_n (lv' := [(0, vR 17), (1, vI r_21), (2, vI x2)]) [1, 0, 2] d_Rd_readList_62 rfl (by decide) rfl ?_
          obtain ⟨hr, H⟩ := H
          refine EV_iinc (lv' := [(0, vR 17), (1, vI r_21), (2, vI (x2 + 1))]) 2 [1, 2, 0] d_Rd_readList_63 rfl (by decide) hr rfl ?_
          refine EV_goto (tgt := 26) d_Rd_readList_66 (by decide) ?_
          exact ih r_21 (x2 + 1) nm_16 rc_17 rd_20 H
        · have H := H.2 hc
          refine EV_iconst d_Rd_readList_54 ⟨by decide, by decide⟩ ?_
          exact EV_iret d_Rd_readList_55 rfl (nw_bool (by decide)) (hK _ _ _ _ H)
theorem ct_Rd_readList_23 {l : Launch} {dn : Nat} {RT : Ob → Ob → Ob → Ob → (Int → Ob → Ob → Ob → Prop) → Prop} (hd6 : 8 ≤ dn) (hRT : ∀ (o0 o1 o2 o3 o4 o5 o6 o7 o8 o9 o10 : Ob) (K : Int → Ob → Ob → Ob → Prop) (K' : Option AV → List AC → Prop), RT o1 o2 o4 o5 K → (∀ (r : Int) (o2' o4' o5' : Ob), K r o2' o4' o5' → K' (some (vI r)) (shC o0 o1 o2' o3 o4' o5' o6 o7 o8 o9 o10)) → MT l ⟨"PrunedSearch$ClauseReader", "readTerm", "()Z"⟩ prog_3_method_11_code 2 (some .boolean) dn [vR 17] (shC o0 o1 o2 o3 o4 o5 o6 o7 o8 o9 o10) K') {o0 tk o3 o6 o7 o8 o9 o10 : Ob} {K : Int → Ob → Ob → Ob → Prop} {K' : Option AV → List AC → Prop} {s0 : Int} {nm rc rd : Ob} (H : Rd_readList_23 RT s0 tk nm rc rd K) (hK : ∀ (r : Int) (nm' rc' rd' : Ob), K r nm' rc' rd' → K' (some (vI r)) (shC o0 tk nm' o3 rc' rd' o6 o7 o8 o9 o10)) : EV l prog_3_method_13_code "PrunedSearch$ClauseReader" 3 (some .boolean) (dn + 1) 23 [(0, vR 17)] [vI s0] (shC o0 tk nm o3 rc rd o6 o7 o8 o9 o10) K' := by
  refine EV_istore_n (lv' := [(0, vR 17), (1, vI s0)]) [1, 0] d_Rd_readList_23 rfl (by decide) rfl ?_
  refine EV_iconst d_Rd_readList_24 ⟨by decide, by decide⟩ ?_
  refine EV_istore_n (lv' := [(0, vR 17), (1, vI s0), (2, vI 0)]) [1, 2, 0] d_Rd_readList_25 rfl (by decide) rfl ?_
  obtain ⟨n, H⟩ := H
  exact ct_Rd_readList_26 hd6 hRT hK n s0 0 nm rc rd H
