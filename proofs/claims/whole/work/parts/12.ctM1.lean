/-! printed by wip/gen/drive.py -/
theorem ct_M_addNames_116 {l : Launch} {K : Int → Ob → Prop} {K' : Option AV → List AC → Prop} {L7 : Int → Int → Ob → Prop} {x1 : Int} {x2 : Int} {m : Ob} (hL7 : ∀ (x1 : Int) (x2 : Int) (m : Ob), L7 x1 x2 m → EV l prog_13_method_20_code "PrunedSearchModel" 5 (some .int) 0 7 [(0, vR 0), (1, vI x1), (2, vI x2)] [] (shM m) K') (H : M_addNames_116 L7 x1 x2 m K) (hK : ∀ (r : Int) (m' : Ob), K r m' → K' (some (vI r)) (shM m')) : EV l prog_13_method_20_code "PrunedSearchModel" 5 (some .int) 0 116 [(0, vR 0), (1, vI x1), (2, vI x2)] [] (shM m) K' := by
  obtain ⟨hr, H⟩ := H
  refine EV_iinc (lv' := [(0, vR 0), (1, vI x1), (2, vI (x2 + 1))]) 2 [1, 2, 0] d_M_addNames_116 rfl (by decide) hr rfl ?_
  refine EV_goto (tgt := 7) d_M_addNames_119 (by decide) ?_
  exact hL7 x1 (x2 + 1) m H
theorem ct_M_addNames_96 {l : Launch} {K : Int → Ob → Prop} {K' : Option AV → List AC → Prop} {L7 : Int → Int → Ob → Prop} {x1 : Int} {x2 : Int} {x3 : Int} {m : Ob} (hL7 : ∀ (x1 : Int) (x2 : Int) (m : Ob), L7 x1 x2 m → EV l prog_13_method_20_code "PrunedSearchModel" 5 (some .int) 0 7 [(0, vR 0), (1, vI x1), (2, vI x2)] [] (shM m) K') (H : M_addNames_96 L7 x1 x2 x3 m K) (hK : ∀ (r : Int) (m' : Ob), K r m' → K' (some (vI r)) (shM m')) : EV l prog_13_method_20_code "PrunedSearchModel" 5 (some .int) 0 96 [(0, vR 0), (1, vI x1), (2, vI x2), (3, vI x3)] [] (shM m) K' := by
  refine EV_iload_n 3 d_M_addNames_96 rfl rfl ?_
  refine EV_if_ne (tgt := 116) d_M_addNames_97 (by decide) (fun hc => ?_) (fun hc => ?_)
  · have H := H.1 hc
    refine EV_lv (lv' := [(0, vR 0), (1, vI x1), (2, vI x2)]) [0, 1, 2] rfl ?_
    exact ct_M_addNames_116 hL7 H hK
  · have H := H.2 hc
    refine EV_aload_n 0 d_M_addNames_100 rfl rfl ?_
    refine EV_get (j := 30) d_M_addNames_101 shM_0 rfl fI11 (by decide) k_998 rfl ?_
    refine EV_iload_n 1 d_M_addNames_104 rfl rfl ?_
    refine EV_aload_n 0 d_M_addNames_105 rfl rfl ?_
    refine EV_get (j := 6) d_M_addNames_106 shM_0 rfl fI11 (by decide) k_974 rfl ?_
    refine EV_iload_n 2 d_M_addNames_109 rfl rfl ?_
    obtain ⟨hi, H⟩ := H
    refine EV_lald d_M_addNames_110 shM_2 hi ?_
    obtain ⟨hi, H⟩ := H
    refine EV_last d_M_addNames_111 shM_18 hi shM_18_s ?_
    refine EV_iload_n 1 d_M_addNames_112 rfl rfl ?_
    refine EV_iconst d_M_addNames_113 ⟨by decide, by decide⟩ ?_
    obtain ⟨hr, H⟩ := H
    refine EV_iadd d_M_addNames_114 hr ?_
    refine EV_istore_n (lv' := [(0, vR 0), (1, vI (x1 + 1)), (2, vI x2), (3, vI x3)]) [1, 0, 2, 3] d_M_addNames_115 rfl (by decide) rfl ?_
    refine EV_lv (lv' := [(0, vR 0), (1, vI (x1 + 1)), (2, vI x2)]) [0, 1, 2] rfl ?_
    exact ct_M_addNames_116 hL7 H hK
theorem ct_M_addNames_89 {l : Launch} {K : Int → Ob → Prop} {K' : Option AV → List AC → Prop} {L7 : Int → Int → Ob → Prop} {L57 : Int → Int → Int → Int → Ob → Prop} {x1 : Int} {x2 : Int} {x4 : Int} {s0 : Int} {m : Ob} (hL7 : ∀ (x1 : Int) (x2 : Int) (m : Ob), L7 x1 x2 m → EV l prog_13_method_20_code "PrunedSearchModel" 5 (some .int) 0 7 [(0, vR 0), (1, vI x1), (2, vI x2)] [] (shM m) K') (hL57 : ∀ (x1 : Int) (x2 : Int) (x3 : Int) (x4 : Int) (m : Ob), L57 x1 x2 x3 x4 m → EV l prog_13_method_20_code "PrunedSearchModel" 5 (some .int) 0 57 [(0, vR 0), (1, vI x1), (2, vI x2), (3, vI x3), (4, vI x4)] [] (shM m) K') (H : M_addNames_89 L7 L57 x1 x2 x4 s0 m K) (hK : ∀ (r : Int) (m' : Ob), K r m' → K' (some (vI r)) (shM m')) : EV l prog_13_method_20_code "PrunedSearchModel" 5 (some .int) 0 89 [(0, vR 0), (1, vI x1), (2, vI x2), (4, vI x4)] [vI s0] (shM m) K' := by
  refine EV_istore_n (lv' := [(0, vR 0), (1, vI x1), (2, vI x2), (3, vI s0), (4, vI x4)]) [1, 2, 3, 0, 4] d_M_addNames_89 rfl (by decide) rfl ?_
  obtain ⟨hr, H⟩ := H
  refine EV_iinc (lv' := [(0, vR 0), (1, vI x1), (2, vI x2), (3, vI s0), (4, vI (x4 + 1))]) 4 [1, 2, 3, 4, 0] d_M_addNames_90 rfl (by decide) hr rfl ?_
  refine EV_goto (tgt := 57) d_M_addNames_93 (by decide) ?_
  exact hL57 x1 x2 s0 (x4 + 1) m H
theorem ct_M_addNames_57 {l : Launch} {K : Int → Ob → Prop} {K' : Option AV → List AC → Prop} {L7 : Int → Int → Ob → Prop} (hL7 : ∀ (x1 : Int) (x2 : Int) (m : Ob), L7 x1 x2 m → EV l prog_13_method_20_code "PrunedSearchModel" 5 (some .int) 0 7 [(0, vR 0), (1, vI x1), (2, vI x2)] [] (shM m) K') (hK : ∀ (r : Int) (m' : Ob), K r m' → K' (some (vI r)) (shM m')) : ∀ (n : Nat) (x1 : Int) (x2 : Int) (x3 : Int) (x4 : Int) (m : Ob), M_addNames_57 L7 n x1 x2 x3 x4 m K → EV l prog_13_method_20_code "PrunedSearchModel" 5 (some .int) 0 57 [(0, vR 0), (1, vI x1), (2, vI x2), (3, vI x3), (4, vI x4)] [] (shM m) K' := by
  intro n
  induction n with
  | zero =>
    intro x1 x2 x3 x4 m H
    exact H.elim
  | succ n ih =>
    intro x1 x2 x3 x4 m H
    refine EV_iload 4 d_M_addNames_57 rfl ?_
    refine EV_iload_n 1 d_M_addNames_59 rfl rfl ?_
    refine EV_icmp_ge (tgt := 96) d_M_addNames_60 (by decide) (fun hc => ?_) (fun hc => ?_)
    · have H := H.1 hc
      refine EV_lv (lv' := [(0, vR 0), (1, vI x1), (2, vI x2), (3, vI x3)]) [0, 1, 2, 3] rfl ?_
      exact ct_M_addNames_96 hL7 H hK
    · have H := H.2 hc
      refine EV_iload_n 3 d_M_addNames_63 rfl rfl ?_
      refine EV_if_ne (tgt := 96) d_M_addNames_64 (by decide) (fun hc => ?_) (fun hc => ?_)
      · have H := H.1 hc
        refine EV_lv (lv' := [(0, vR 0), (1, vI x1), (2, vI x2), (3, vI x3)]) [0, 1, 2, 3] rfl ?_
        exact ct_M_addNames_96 hL7 H hK
      · have H := H.2 hc
        refine EV_aload_n 0 d_M_addNames_67 rfl rfl ?_
        refine EV_get (j := 30) d_M_addNames_68 shM_0 rfl fI11 (by decide) k_998 rfl ?_
        refine EV_iload 4 d_M_addNames_71 rfl ?_
        obtain ⟨hi, H⟩ := H
        refine EV_lald d_M_addNames_73 shM_18 hi ?_
        refine EV_aload_n 0 d_M_addNames_74 rfl rfl ?_
        refine EV_get (j := 6) d_M_addNames_75 shM_0 rfl fI11 (by decide) k_974 rfl ?_
        refine EV_iload_n 2 d_M_addNames_78 rfl rfl ?_
        obtain ⟨hi, H⟩ := H
        refine EV_lald d_M_addNames_79 shM_2 hi ?_
        refine EV_lcmp_ne (tgt := 88) d_M_addNames_80 d_M_addNames_81 (by decide) (fun hc => ?_) (fun hc => ?_)
        · have H := H.1 hc
          refine EV_iconst d_M_addNames_88 ⟨by decide, by decide⟩ ?_
          refine EV_lv (lv' := [(0, vR 0), (1, vI x1), (2, vI x2), (4, vI x4)]) [0, 1, 2, 4] rfl ?_
          exact ct_M_addNames_89 hL7 (fun x1 x2 x3 x4 m' H => ih x1 x2 x3 x4 m' H) H hK
        · have H := H.2 hc
          refine EV_iconst d_M_addNames_84 ⟨by decide, by decide⟩ ?_
          refine EV_goto (tgt := 89) d_M_addNames_85 (by decide) ?_
          refine EV_lv (lv' := [(0, vR 0), (1, vI x1), (2, vI x2), (4, vI x4)]) [0, 1, 2, 4] rfl ?_
          exact ct_M_addNames_89 hL7 (fun x1 x2 x3 x4 m' H => ih x1 x2 x3 x4 m' H) H hK
theorem ct_M_addNames_53 {l : Launch} {K : Int → Ob → Prop} {K' : Option AV → List AC → Prop} {L7 : Int → Int → Ob → Prop} {x1 : Int} {x2 : Int} {s0 : Int} {m : Ob} (hL7 : ∀ (x1 : Int) (x2 : Int) (m : Ob), L7 x1 x2 m → EV l prog_13_method_20_code "PrunedSearchModel" 5 (some .int) 0 7 [(0, vR 0), (1, vI x1), (2, vI x2)] [] (shM m) K') (H : M_addNames_53 L7 x1 x2 s0 m K) (hK : ∀ (r : Int) (m' : Ob), K r m' → K' (some (vI r)) (shM m')) : EV l prog_13_method_20_code "PrunedSearchModel" 5 (some .int) 0 53 [(0, vR 0), (1, vI x1), (2, vI x2)] [vI s0] (shM m) K' := by
  refine EV_istore_n (lv' := [(0, vR 0), (1, vI x1), (2, vI x2), (3, vI s0)]) [1, 2, 3, 0] d_M_addNames_53 rfl (by decide) rfl ?_
  refine EV_iconst d_M_addNames_54 ⟨by decide, by decide⟩ ?_
  refine EV_istore (lv' := [(0, vR 0), (1, vI x1), (2, vI x2), (3, vI s0), (4, vI 0)]) [1, 2, 3, 4, 0] d_M_addNames_55 (by decide) rfl ?_
  obtain ⟨n, H⟩ := H
  exact ct_M_addNames_57 hL7 hK n x1 x2 s0 0 m H
theorem ct_M_addNames_48 {l : Launch} {K : Int → Ob → Prop} {K' : Option AV → List AC → Prop} {L7 : Int → Int → Ob → Prop} {x1 : Int} {x2 : Int} {m : Ob} (hL7 : ∀ (x1 : Int) (x2 : Int) (m : Ob), L7 x1 x2 m → EV l prog_13_method_20_code "PrunedSearchModel" 5 (some .int) 0 7 [(0, vR 0), (1, vI x1), (2, vI x2)] [] (shM m) K') (H : M_addNames_48 L7 x1 x2 m K) (hK : ∀ (r : Int) (m' : Ob), K r m' → K' (some (vI r)) (shM m')) : EV l prog_13_method_20_code "PrunedSearchModel" 5 (some .int) 0 48 [(0, vR 0), (1, vI x1), (2, vI x2)] [] (shM m) K' := by
  refine EV_iconst d_M_addNames_48 ⟨by decide, by decide⟩ ?_
  refine EV_goto (tgt := 53) d_M_addNames_49 (by decide) ?_
  exact ct_M_addNames_53 hL7 H hK
theorem ct_M_addNames_7 {l : Launch} {K : Int → Ob → Prop} {K' : Option AV → List AC → Prop} (hK : ∀ (r : Int) (m' : Ob), K r m' → K' (some (vI r)) (shM m')) : ∀ (n : Nat) (x1 : Int) (x2 : Int) (m : Ob), M_addNames_7 n x1 x2 m K → EV l prog_13_method_20_code "PrunedSearchModel" 5 (some .int) 0 7 [(0, vR 0), (1, vI x1), (2, vI x2)] [] (shM m) K' := by
  intro n
  induction n with
  | zero =>
    intro x1 x2 m H
    exact H.elim
  | succ n ih =>
    intro x1 x2 m H
    refine EV_iload_n 2 d_M_addNames_7 rfl rfl ?_
    refine EV_aload_n 0 d_M_addNames_8 rfl rfl ?_
    refine EV_get (j := 8) d_M_addNames_9 shM_0 rfl fI11 (by decide) k_976 rfl ?_
    refine EV_icmp_ge (tgt := 122) d_M_addNames_12 (by decide) (fun hc => ?_) (fun hc => ?_)
    · have H := H.1 hc
      refine EV_iload_n 1 d_M_addNames_122 rfl rfl ?_
      exact EV_iret d_M_addNames_123 rfl (nw_int _) (hK _ _ H)
    · have H := H.2 hc
      refine EV_aload_n 0 d_M_addNames_15 rfl rfl ?_
      refine EV_get (j := 7) d_M_addNames_16 shM_0 rfl fI11 (by decide) k_975 rfl ?_
      refine EV_iload_n 2 d_M_addNames_19 rfl rfl ?_
      obtain ⟨hi, H⟩ := H
      refine EV_iald d_M_addNames_20 shM_3 hi ?_
      refine EV_if_lt (tgt := 48) d_M_addNames_21 (by decide) (fun hc => ?_) (fun hc => ?_)
      · have H := H.1 hc
        exact ct_M_addNames_48 (fun x1 x2 m' H => ih x1 x2 m' H) H hK
      · have H := H.2 hc
        refine EV_aload_n 0 d_M_addNames_24 rfl rfl ?_
        refine EV_get (j := 6) d_M_addNames_25 shM_0 rfl fI11 (by decide) k_974 rfl ?_
        refine EV_iload_n 2 d_M_addNames_28 rfl rfl ?_
        obtain ⟨hi, H⟩ := H
        refine EV_lald d_M_addNames_29 shM_2 hi ?_
        refine EV_lconst (v := 1) d_M_addNames_30 rfl ?_
        refine EV_lcmp_eq (tgt := 48) d_M_addNames_31 d_M_addNames_32 (by decide) (fun hc => ?_) (fun hc => ?_)
        · have H := H.1 hc
          exact ct_M_addNames_48 (fun x1 x2 m' H => ih x1 x2 m' H) H hK
        · have H := H.2 hc
          refine EV_aload_n 0 d_M_addNames_35 rfl rfl ?_
          refine EV_get (j := 6) d_M_addNames_36 shM_0 rfl fI11 (by decide) k_974 rfl ?_
          refine EV_iload_n 2 d_M_addNames_39 rfl rfl ?_
          obtain ⟨hi, H⟩ := H
          refine EV_lald d_M_addNames_40 shM_2 hi ?_
          refine EV_ldc2 (n := 2) d_M_addNames_41 k_1188 (by decide +kernel) (by decide) ?_
          refine EV_lcmp_ne (tgt := 52) d_M_addNames_44 d_M_addNames_45 (by decide) (fun hc => ?_) (fun hc => ?_)
          · have H := H.1 hc
            refine EV_iconst d_M_addNames_52 ⟨by decide, by decide⟩ ?_
            exact ct_M_addNames_53 (fun x1 x2 m' H => ih x1 x2 m' H) H hK
          · have H := H.2 hc
            exact ct_M_addNames_48 (fun x1 x2 m' H => ih x1 x2 m' H) H hK
theorem ct_M_addNames {l : Launch} {m : Ob} {K : Int → Ob → Prop} {K' : Option AV → List AC → Prop} (H : wp_M_addNames m K) (hK : ∀ (r : Int) (m' : Ob), K r m' → K' (some (vI r)) (shM m')) : MT l ⟨"PrunedSearchModel", "addNames", "()I"⟩ prog_13_method_20_code 5 (some .int) 0 [vR 0] (shM m) K' := by
  unfold wp_M_addNames at H
  refine MT_of (lv := [(0, vR 0)]) rfl rfl (Nat.le_of_ble_eq_true rfl) rfl ?_
  refine EV_aload_n 0 d_M_addNames_0 rfl rfl ?_
  refine EV_get (j := 29) d_M_addNames_1 shM_0 rfl fI11 (by decide) k_997 rfl ?_
  refine EV_istore_n (lv' := [(0, vR 0), (1, vI (m.1 11))]) [1, 0] d_M_addNames_4 rfl (by decide) rfl ?_
  refine EV_iconst d_M_addNames_5 ⟨by decide, by decide⟩ ?_
  refine EV_istore_n (lv' := [(0, vR 0), (1, vI (m.1 11)), (2, vI 0)]) [1, 2, 0] d_M_addNames_6 rfl (by decide) rfl ?_
  obtain ⟨n, H⟩ := H
  exact ct_M_addNames_7 hK n (m.1 11) 0 m H
theorem ct_M_keep_105 {l : Launch} {K : Ob → Prop} {K' : Option AV → List AC → Prop} (hK : ∀ (m' : Ob), K m' → K' none (shM m')) : ∀ (n : Nat) (x1 : Int) (x2 : Int) (x3 : Int) (x4 : Int) (m : Ob), M_keep_105 n x1 x2 x3 x4 m K → EV l prog_13_method_21_code "PrunedSearchModel" 5 none 1 105 [(0, vR 0), (1, vI x1), (2, vI x2), (3, vI x3), (4, vI x4)] [] (shM m) K' := by
  intro n
  induction n with
  | zero =>
    intro x1 x2 x3 x4 m H
    exact H.elim
  | succ n ih =>
    intro x1 x2 x3 x4 m H
    refine EV_iload 4 d_M_keep_105 rfl ?_
    refine EV_aload_n 0 d_M_keep_107 rfl rfl ?_
    refine EV_get (j := 27) d_M_keep_108 shM_0 rfl fI11 (by decide) k_995 rfl ?_
    refine EV_iload_n 3 d_M_keep_111 rfl rfl ?_
    obtain ⟨hi, H⟩ := H
    refine EV_iald d_M_keep_112 shM_16 hi ?_
    refine EV_icmp_ge (tgt := 155) d_M_keep_113 (by decide) (fun hc => ?_) (fun hc => ?_)
    · have H := H.1 hc
      exact EV_vret d_M_keep_155 rfl (hK _ H)
    · have H := H.2 hc
      refine EV_aload_n 0 d_M_keep_116 rfl rfl ?_
      refine EV_get (j := 28) d_M_keep_117 shM_0 rfl fI11 (by decide) k_996 rfl ?_
      refine EV_bipush d_M_keep_120 (by decide +kernel) ⟨by decide, by decide⟩ ?_
      refine EV_iload_n 3 d_M_keep_122 rfl rfl ?_
      obtain ⟨hr, H⟩ := H
      refine EV_imul d_M_keep_123 hr ?_
      refine EV_iload 4 d_M_keep_124 rfl ?_
      obtain ⟨hr, H⟩ := H
      refine EV_iadd d_M_keep_126 hr ?_
      refine EV_bipush d_M_keep_127 (by decide +kernel) ⟨by decide, by decide⟩ ?_
      refine EV_iload_n 3 d_M_keep_129 rfl rfl ?_
      obtain ⟨hr, H⟩ := H
      refine EV_imul d_M_keep_130 hr ?_
      refine EV_aload_n 0 d_M_keep_131 rfl rfl ?_
      refine EV_get (j := 14) d_M_keep_132 shM_0 rfl fI11 (by decide) k_982 rfl ?_
      refine EV_iload_n 2 d_M_keep_135 rfl rfl ?_
      refine EV_iload 4 d_M_keep_136 rfl ?_
      obtain ⟨hr, H⟩ := H
      refine EV_iadd d_M_keep_138 hr ?_
      obtain ⟨hi, H⟩ := H
      refine EV_iald d_M_keep_139 shM_7 hi ?_
      obtain ⟨hr, H⟩ := H
      refine EV_iadd d_M_keep_140 hr ?_
      refine EV_aload_n 0 d_M_keep_141 rfl rfl ?_
      refine EV_get (j := 10) d_M_keep_142 shM_0 rfl fI11 (by decide) k_978 rfl ?_
      refine EV_iload_n 1 d_M_keep_145 rfl rfl ?_
      obtain ⟨hi, H⟩ := H
      refine EV_iald d_M_keep_146 shM_4 hi ?_
      obtain ⟨hr, H⟩ := H
      refine EV_isub d_M_keep_147 hr ?_
      obtain ⟨hi, H⟩ := H
      refine EV_iast d_M_keep_148 shM_17 hi shM_17_s ?_
      obtain ⟨hr, H⟩ := H
      refine EV_iinc (lv' := [(0, vR 0), (1, vI x1), (2, vI x2), (3, vI x3), (4, vI (x4 + 1))]) 4 [1, 2, 3, 4, 0] d_M_keep_149 rfl (by decide) hr rfl ?_
      refine EV_goto (tgt := 105) d_M_keep_152 (by decide) ?_
      exact ih x1 x2 x3 (x4 + 1) (sA m 13 ((8 * x3) + x4) (((40 * x3) + (m.2.1 5 (x2 + x4))) - (m.2.1 2 x1))) H
theorem ct_M_keep_90 {l : Launch} {K : Ob → Prop} {K' : Option AV → List AC → Prop} {x1 : Int} {x2 : Int} {x3 : Int} {m : Ob} (H : M_keep_90 x1 x2 x3 m K) (hK : ∀ (m' : Ob), K m' → K' none (shM m')) : EV l prog_13_method_21_code "PrunedSearchModel" 5 none 1 90 [(0, vR 0), (1, vI x1), (2, vI x2), (3, vI x3)] [] (shM m) K' := by
  refine EV_aload_n 0 d_M_keep_90 rfl rfl ?_
  refine EV_get (j := 27) d_M_keep_91 shM_0 rfl fI11 (by decide) k_995 rfl ?_
  refine EV_iload_n 3 d_M_keep_94 rfl rfl ?_
  refine EV_aload_n 0 d_M_keep_95 rfl rfl ?_
  refine EV_get (j := 11) d_M_keep_96 shM_0 rfl fI11 (by decide) k_979 rfl ?_
  refine EV_iload_n 1 d_M_keep_99 rfl rfl ?_
  obtain ⟨hi, H⟩ := H
  refine EV_iald d_M_keep_100 shM_5 hi ?_
  obtain ⟨hi, H⟩ := H
  refine EV_iast d_M_keep_101 shM_16 hi shM_16_s ?_
  refine EV_iconst d_M_keep_102 ⟨by decide, by decide⟩ ?_
  refine EV_istore (lv' := [(0, vR 0), (1, vI x1), (2, vI x2), (3, vI x3), (4, vI 0)]) [1, 2, 3, 4, 0] d_M_keep_103 (by decide) rfl ?_
  obtain ⟨n, H⟩ := H
  exact ct_M_keep_105 hK n x1 x2 x3 0 (sA m 12 x3 (m.2.1 3 x1)) H
theorem ct_M_keep_21 {l : Launch} {K : Ob → Prop} {K' : Option AV → List AC → Prop} (hK : ∀ (m' : Ob), K m' → K' none (shM m')) : ∀ (n : Nat) (x1 : Int) (x2 : Int) (x3 : Int) (x4 : Int) (m : Ob), M_keep_21 n x1 x2 x3 x4 m K → EV l prog_13_method_21_code "PrunedSearchModel" 5 none 1 21 [(0, vR 0), (1, vI x1), (2, vI x2), (3, vI x3), (4, vI x4)] [] (shM m) K' := by
  intro n
  induction n with
  | zero =>
    intro x1 x2 x3 x4 m H
    exact H.elim
  | succ n ih =>
    intro x1 x2 x3 x4 m H
    refine EV_iload 4 d_M_keep_21 rfl ?_
    refine EV_aload_n 0 d_M_keep_23 rfl rfl ?_
    refine EV_get (j := 26) d_M_keep_24 shM_0 rfl fI11 (by decide) k_994 rfl ?_
    refine EV_iload_n 3 d_M_keep_27 rfl rfl ?_
    obtain ⟨hi, H⟩ := H
    refine EV_iald d_M_keep_28 shM_15 hi ?_
    refine EV_icmp_ge (tgt := 90) d_M_keep_29 (by decide) (fun hc => ?_) (fun hc => ?_)
    · have H := H.1 hc
      refine EV_lv (lv' := [(0, vR 0), (1, vI x1), (2, vI x2), (3, vI x3)]) [0, 1, 2, 3] rfl ?_
      exact ct_M_keep_90 H hK
    · have H := H.2 hc
      refine EV_aload_n 0 d_M_keep_32 rfl rfl ?_
      refine EV_get (j := 23) d_M_keep_33 shM_0 rfl fI11 (by decide) k_991 rfl ?_
      refine EV_bipush d_M_keep_36 (by decide +kernel) ⟨by decide, by decide⟩ ?_
      refine EV_iload_n 3 d_M_keep_38 rfl rfl ?_
      obtain ⟨hr, H⟩ := H
      refine EV_imul d_M_keep_39 hr ?_
      refine EV_iload 4 d_M_keep_40 rfl ?_
      obtain ⟨hr, H⟩ := H
      refine EV_iadd d_M_keep_42 hr ?_
      refine EV_aload_n 0 d_M_keep_43 rfl rfl ?_
      refine EV_get (j := 6) d_M_keep_44 shM_0 rfl fI11 (by decide) k_974 rfl ?_
      refine EV_aload_n 0 d_M_keep_47 rfl rfl ?_
      refine EV_get (j := 10) d_M_keep_48 shM_0 rfl fI11 (by decide) k_978 rfl ?_
      refine EV_iload_n 1 d_M_keep_51 rfl rfl ?_
      obtain ⟨hi, H⟩ := H
      refine EV_iald d_M_keep_52 shM_4 hi ?_
      refine EV_iload 4 d_M_keep_53 rfl ?_
      obtain ⟨hr, H⟩ := H
      refine EV_iadd d_M_keep_55 hr ?_
      obtain ⟨hi, H⟩ := H
      refine EV_lald d_M_keep_56 shM_2 hi ?_
      obtain ⟨hi, H⟩ := H
      refine EV_last d_M_keep_57 shM_13 hi shM_13_s ?_
      refine EV_aload_n 0 d_M_keep_58 rfl rfl ?_
      refine EV_get (j := 24) d_M_keep_59 shM_0 rfl fI11 (by decide) k_992 rfl ?_
      refine EV_bipush d_M_keep_62 (by decide +kernel) ⟨by decide, by decide⟩ ?_
      refine EV_iload_n 3 d_M_keep_64 rfl rfl ?_
      obtain ⟨hr, H⟩ := H
      refine EV_imul d_M_keep_65 hr ?_
      refine EV_iload 4 d_M_keep_66 rfl ?_
      obtain ⟨hr, H⟩ := H
      refine EV_iadd d_M_keep_68 hr ?_
      refine EV_aload_n 0 d_M_keep_69 rfl rfl ?_
      refine EV_get (j := 7) d_M_keep_70 shM_0 rfl fI11 (by decide) k_975 rfl ?_
      refine EV_aload_n 0 d_M_keep_73 rfl rfl ?_
      refine EV_get (j := 10) d_M_keep_74 shM_0 rfl fI11 (by decide) k_978 rfl ?_
      refine EV_iload_n 1 d_M_keep_77 rfl rfl ?_
      obtain ⟨hi, H⟩ := H
      refine EV_iald d_M_keep_78 shM_4 hi ?_
      refine EV_iload 4 d_M_keep_79 rfl ?_
      obtain ⟨hr, H⟩ := H
      refine EV_iadd d_M_keep_81 hr ?_
      obtain ⟨hi, H⟩ := H
      refine EV_iald d_M_keep_82 shM_3 hi ?_
      obtain ⟨hi, H⟩ := H
      refine EV_iast d_M_keep_83 shM_14 hi shM_14_s ?_
      obtain ⟨hr, H⟩ := H
      refine EV_iinc (lv' := [(0, vR 0), (1, vI x1), (2, vI x2), (3, vI x3), (4, vI (x4 + 1))]) 4 [1, 2, 3, 4, 0] d_M_keep_84 rfl (by decide) hr rfl ?_
      refine EV_goto (tgt := 21) d_M_keep_87 (by decide) ?_
      exact ih x1 x2 x3 (x4 + 1) (sA (sL m 2 ((40 * x3) + x4) (m.2.2.2 0 ((m.2.1 2 x1) + x4))) 10 ((40 * x3) + x4) (m.2.1 1 ((m.2.1 2 x1) + x4))) H
theorem ct_M_keep {l : Launch} {m : Ob} {x1 : Int} {x2 : Int} {x3 : Int} {K : Ob → Prop} {K' : Option AV → List AC → Prop} (H : wp_M_keep x1 x2 x3 m K) (hK : ∀ (m' : Ob), K m' → K' none (shM m')) : MT l ⟨"PrunedSearchModel", "keep", "(III)V"⟩ prog_13_method_21_code 5 none 1 [vR 0, vI x1, vI x2, vI x3] (shM m) K' := by
  unfold wp_M_keep at H
  refine MT_of (lv := [(0, vR 0), (1, vI x1), (2, vI x2), (3, vI x3)]) rfl rfl (Nat.le_of_ble_eq_true rfl) rfl ?_
  refine EV_aload_n 0 d_M_keep_0 rfl rfl ?_
  refine EV_get (j := 26) d_M_keep_1 shM_0 rfl fI11 (by decide) k_994 rfl ?_
  refine EV_iload_n 3 d_M_keep_4 rfl rfl ?_
  refine EV_aload_n 0 d_M_keep_5 rfl rfl ?_
  refine EV_iload_n 1 d_M_keep_6 rfl rfl ?_
  refine EV_callV (as := [vI x1]) (st := [vI x3, vR 15]) d_M_keep_7 k_1210 k_1212 kp_56 k_12 k_1213 shM_0 rfl pd_14 ⟨by decide, by decide, Nat.le_of_ble_eq_true rfl⟩ rfl (ct_M_endOf H (fun r_1 H => ?_))
  refine EV_aload_n 0 d_M_keep_10 rfl rfl ?_
  refine EV_get (j := 10) d_M_keep_11 shM_0 rfl fI11 (by decide) k_978 rfl ?_
  refine EV_iload_n 1 d_M_keep_14 rfl rfl ?_
  obtain ⟨hi, H⟩ := H
  refine EV_iald d_M_keep_15 shM_4 hi ?_
  obtain ⟨hr, H⟩ := H
  refine EV_isub d_M_keep_16 hr ?_
  obtain ⟨hi, H⟩ := H
  refine EV_iast d_M_keep_17 shM_15 hi shM_15_s ?_
  refine EV_iconst d_M_keep_18 ⟨by decide, by decide⟩ ?_
  refine EV_istore (lv' := [(0, vR 0), (1, vI x1), (2, vI x2), (3, vI x3), (4, vI 0)]) [1, 2, 3, 4, 0] d_M_keep_19 (by decide) rfl ?_
  obtain ⟨n, H⟩ := H
  exact ct_M_keep_21 hK n x1 x2 x3 0 (sA m 11 x3 (r_1 - (m.2.1 2 x1))) H
theorem ct_M_consult_156 {l : Launch} {K : Int → Ob → Prop} {K' : Option AV → List AC → Prop} {m : Ob} (H : M_consult_156 m K) (hK : ∀ (r : Int) (m' : Ob), K r m' → K' (some (vI r)) (shM m')) : EV l prog_13_method_23_code "PrunedSearchModel" 6 (some .int) 4 156 [(0, vR 0)] [] (shM m) K' := by
  refine EV_aload_n 0 d_M_consult_156 rfl rfl ?_
  refine EV_get (j := 9) d_M_consult_157 shM_0 rfl fI11 (by decide) k_977 rfl ?_
  exact EV_iret d_M_consult_160 rfl (nw_int _) (hK _ _ H)
theorem ct_M_consult_107 {l : Launch} {K : Int → Ob → Prop} {K' : Option AV → List AC → Prop} (hK : ∀ (r : Int) (m' : Ob), K r m' → K' (some (vI r)) (shM m')) : ∀ (n : Nat) (x4 : Int) (x5 : Int) (m : Ob), M_consult_107 n x4 x5 m K → EV l prog_13_method_23_code "PrunedSearchModel" 6 (some .int) 4 107 [(0, vR 0), (4, vI x4), (5, vI x5)] [] (shM m) K' := by
  intro n
  induction n with
  | zero =>
    intro x4 x5 m H
    exact H.elim
  | succ n ih =>
    intro x4 x5 m H
    refine EV_iload 2 d_M_consult_107 rfl ?_
    refine EV_aload_n 0 d_M_consult_109 rfl rfl ?_
    refine EV_get (j := 9) d_M_consult_110 shM_0 rfl fI11 (by decide) k_977 rfl ?_
    refine EV_icmp_ge (tgt := 156) d_M_consult_113 (by decide) (fun hc => ?_) (fun hc => ?_)
    · have H := H.1 hc
      refine EV_lv (lv' := [(0, vR 0)]) [0] rfl ?_
      exact ct_M_consult_156 H hK
    · have H := H.2 hc
      refine EV_aload_n 0 d_M_consult_116 rfl rfl ?_
      refine EV_iload 2 d_M_consult_117 rfl ?_
      refine EV_iload 1 d_M_consult_119 rfl ?_
      refine EV_aload_n 0 d_M_consult_121 rfl rfl ?_
      refine EV_get (j := 25) d_M_consult_122 shM_0 rfl fI11 (by decide) k_993 rfl ?_
      refine EV_callV (as := [vI x5, vI x4, vI (m.1 10)]) (st := []) d_M_consult_125 k_1218 k_1220 kp_58 k_12 k_1221 shM_0 rfl pd_15 ⟨by decide, by decide, Nat.le_of_ble_eq_true rfl⟩ rfl (ct_M_keep H (fun m_6 H => ?_))
      refine EV_iload 1 d_M_consult_128 rfl ?_
      refine EV_aload_n 0 d_M_consult_130 rfl rfl ?_
      refine EV_get (j := 11) d_M_consult_131 shM_0 rfl fI11 (by decide) k_979 rfl ?_
      refine EV_iload 2 d_M_consult_134 rfl ?_
      obtain ⟨hi, H⟩ := H
      refine EV_iald d_M_consult_136 shM_5 hi ?_
      obtain ⟨hr, H⟩ := H
      refine EV_iadd d_M_consult_137 hr ?_
      refine EV_istore (lv' := [(0, vR 0), (4, vI (x4 + (m_6.2.1 3 x5))), (5, vI x5)]) [1, 0, 2] d_M_consult_138 (by decide) rfl ?_
      refine EV_aload_n 0 d_M_consult_140 rfl rfl ?_
      refine EV_aload_n 0 d_M_consult_141 rfl rfl ?_
      refine EV_get (j := 25) d_M_consult_142 shM_0 rfl fI11 (by decide) k_993 rfl ?_
      refine EV_iconst d_M_consult_145 ⟨by decide, by decide⟩ ?_
      obtain ⟨hr, H⟩ := H
      refine EV_iadd d_M_consult_146 hr ?_
      refine EV_put (j := 25) d_M_consult_147 shM_0 rfl fI11 fO11 fN11 (by decide) k_993 rfl rfl (fun ad => nf_int ad _) (Nat.le_of_ble_eq_true rfl) shM_0_25 ?_
      obtain ⟨hr, H⟩ := H
      refine EV_iinc (lv' := [(0, vR 0), (4, vI (x4 + (m_6.2.1 3 x5))), (5, vI (x5 + 1))]) 2 [1, 2, 0] d_M_consult_150 rfl (by decide) hr rfl ?_
      refine EV_goto (tgt := 107) d_M_consult_153 (by decide) ?_
      exact ih (x4 + (m_6.2.1 3 x5)) (x5 + 1) (sI m_6 10 ((m_6.1 10) + 1)) H
theorem ct_M_consult_77 {l : Launch} {K : Int → Ob → Prop} {K' : Option AV → List AC → Prop} {x2 : Int} {m : Ob} (H : M_consult_77 x2 m K) (hK : ∀ (r : Int) (m' : Ob), K r m' → K' (some (vI r)) (shM m')) : EV l prog_13_method_23_code "PrunedSearchModel" 6 (some .int) 4 77 [(0, vR 0), (2, vI x2)] [] (shM m) K' := by
  refine EV_aload_n 0 d_M_consult_77 rfl rfl ?_
  refine EV_callV (as := []) (st := []) d_M_consult_78 k_1214 k_1216 kp_57 k_12 k_1217 shM_0 rfl pd_16 ⟨by decide, by decide, Nat.le_of_ble_eq_true rfl⟩ rfl (ct_M_addNames H (fun r_5 m_4 H => ?_))
  refine EV_istore_n (lv' := [(0, vR 0), (2, vI x2), (3, vI r_5)]) [1, 2, 0] d_M_consult_81 rfl (by decide) rfl ?_
  refine EV_iload_n 1 d_M_consult_82 rfl rfl ?_
  refine EV_if_ne (tgt := 92) d_M_consult_83 (by decide) (fun hc => ?_) (fun hc => ?_)
  · have H := H.1 hc
    refine EV_sipush d_M_consult_92 (by decide +kernel) ⟨by decide, by decide⟩ ?_
    exact EV_iret d_M_consult_95 rfl (nw_int _) (hK _ _ H)
  · have H := H.2 hc
    refine EV_iload_n 2 d_M_consult_86 rfl rfl ?_
    refine EV_bipush d_M_consult_87 (by decide +kernel) ⟨by decide, by decide⟩ ?_
    refine EV_icmp_le (tgt := 96) d_M_consult_89 (by decide) (fun hc => ?_) (fun hc => ?_)
    · have H := H.1 hc
      refine EV_aload_n 0 d_M_consult_96 rfl rfl ?_
      refine EV_iload_n 2 d_M_consult_97 rfl rfl ?_
      refine EV_put (j := 29) d_M_consult_98 shM_0 rfl fI11 fO11 fN11 (by decide) k_997 rfl rfl (fun ad => nf_int ad _) (Nat.le_of_ble_eq_true rfl) shM_0_29 ?_
      refine EV_iconst d_M_consult_101 ⟨by decide, by decide⟩ ?_
      refine EV_istore (lv' := [(0, vR 0), (2, vI x2), (3, vI r_5), (4, vI 0)]) [1, 2, 3, 0] d_M_consult_102 (by decide) rfl ?_
      refine EV_iconst d_M_consult_104 ⟨by decide, by decide⟩ ?_
      refine EV_istore (lv' := [(0, vR 0), (2, vI x2), (3, vI r_5), (4, vI 0), (5, vI 0)]) [1, 2, 3, 4, 0] d_M_consult_105 (by decide) rfl ?_
      refine EV_lv (lv' := [(0, vR 0), (4, vI 0), (5, vI 0)]) [0, 3, 4] rfl ?_
      obtain ⟨n, H⟩ := H
      exact ct_M_consult_107 hK n 0 0 (sI m_4 11 r_5) H
    · have H := H.2 hc
      refine EV_sipush d_M_consult_92 (by decide +kernel) ⟨by decide, by decide⟩ ?_
      exact EV_iret d_M_consult_95 rfl (nw_int _) (hK _ _ H)
theorem ct_M_consult_70 {l : Launch} {K : Int → Ob → Prop} {K' : Option AV → List AC → Prop} {L45 : Int → Int → Ob → Prop} {x3 : Int} {s0 : Int} {m : Ob} (hL45 : ∀ (x2 : Int) (x3 : Int) (m : Ob), L45 x2 x3 m → EV l prog_13_method_23_code "PrunedSearchModel" 6 (some .int) 4 45 [(0, vR 0), (2, vI x2), (3, vI x3)] [] (shM m) K') (H : M_consult_70 L45 x3 s0 m K) (hK : ∀ (r : Int) (m' : Ob), K r m' → K' (some (vI r)) (shM m')) : EV l prog_13_method_23_code "PrunedSearchModel" 6 (some .int) 4 70 [(0, vR 0), (3, vI x3)] [vI s0] (shM m) K' := by
  refine EV_istore_n (lv' := [(0, vR 0), (2, vI s0), (3, vI x3)]) [1, 0, 2] d_M_consult_70 rfl (by decide) rfl ?_
  obtain ⟨hr, H⟩ := H
  refine EV_iinc (lv' := [(0, vR 0), (2, vI s0), (3, vI (x3 + 1))]) 2 [1, 2, 0] d_M_consult_71 rfl (by decide) hr rfl ?_
  refine EV_goto (tgt := 45) d_M_consult_74 (by decide) ?_
  exact hL45 s0 (x3 + 1) m H
theorem ct_M_consult_65 {l : Launch} {K : Int → Ob → Prop} {K' : Option AV → List AC → Prop} {L45 : Int → Int → Ob → Prop} {x3 : Int} {m : Ob} (hL45 : ∀ (x2 : Int) (x3 : Int) (m : Ob), L45 x2 x3 m → EV l prog_13_method_23_code "PrunedSearchModel" 6 (some .int) 4 45 [(0, vR 0), (2, vI x2), (3, vI x3)] [] (shM m) K') (H : M_consult_65 L45 x3 m K) (hK : ∀ (r : Int) (m' : Ob), K r m' → K' (some (vI r)) (shM m')) : EV l prog_13_method_23_code "PrunedSearchModel" 6 (some .int) 4 65 [(0, vR 0), (3, vI x3)] [] (shM m) K' := by
  refine EV_iconst d_M_consult_65 ⟨by decide, by decide⟩ ?_
  refine EV_goto (tgt := 70) d_M_consult_66 (by decide) ?_
  exact ct_M_consult_70 hL45 H hK
theorem ct_M_consult_45 {l : Launch} {K : Int → Ob → Prop} {K' : Option AV → List AC → Prop} (hK : ∀ (r : Int) (m' : Ob), K r m' → K' (some (vI r)) (shM m')) : ∀ (n : Nat) (x2 : Int) (x3 : Int) (m : Ob), M_consult_45 n x2 x3 m K → EV l prog_13_method_23_code "PrunedSearchModel" 6 (some .int) 4 45 [(0, vR 0), (2, vI x2), (3, vI x3)] [] (shM m) K' := by
  intro n
  induction n with
  | zero =>
    intro x2 x3 m H
    exact H.elim
  | succ n ih =>
    intro x2 x3 m H
    refine EV_iload_n 2 d_M_consult_45 rfl rfl ?_
    refine EV_aload_n 0 d_M_consult_46 rfl rfl ?_
    refine EV_get (j := 9) d_M_consult_47 shM_0 rfl fI11 (by decide) k_977 rfl ?_
    refine EV_icmp_ge (tgt := 77) d_M_consult_50 (by decide) (fun hc => ?_) (fun hc => ?_)
    · have H := H.1 hc
      refine EV_lv (lv' := [(0, vR 0), (2, vI x2)]) [0, 1] rfl ?_
      exact ct_M_consult_77 H hK
    · have H := H.2 hc
      refine EV_iload_n 1 d_M_consult_53 rfl rfl ?_
      refine EV_if_ne (tgt := 65) d_M_consult_54 (by decide) (fun hc => ?_) (fun hc => ?_)
      · have H := H.1 hc
        refine EV_lv (lv' := [(0, vR 0), (3, vI x3)]) [0, 2] rfl ?_
        exact ct_M_consult_65 (fun x2 x3 m' H => ih x2 x3 m' H) H hK
      · have H := H.2 hc
        refine EV_aload_n 0 d_M_consult_57 rfl rfl ?_
        refine EV_iload_n 2 d_M_consult_58 rfl rfl ?_
        refine EV_callV (as := [vI x3]) (st := []) d_M_consult_59 k_1206 k_1208 kp_55 k_12 k_1209 shM_0 rfl pd_17 ⟨by decide, by decide, Nat.le_of_ble_eq_true rfl⟩ rfl (ct_M_tooMuch H (fun r_7 H => ?_))
        refine EV_if_eq (tgt := 69) d_M_consult_62 (by decide) (fun hc => ?_) (fun hc => ?_)
        · have H := H.1 hc
          refine EV_iconst d_M_consult_69 ⟨by decide, by decide⟩ ?_
          refine EV_lv (lv' := [(0, vR 0), (3, vI x3)]) [0, 2] rfl ?_
          exact ct_M_consult_70 (fun x2 x3 m' H => ih x2 x3 m' H) H hK
        · have H := H.2 hc
          refine EV_lv (lv' := [(0, vR 0), (3, vI x3)]) [0, 2] rfl ?_
          exact ct_M_consult_65 (fun x2 x3 m' H => ih x2 x3 m' H) H hK
theorem ct_M_consult_42 {l : Launch} {K : Int → Ob → Prop} {K' : Option AV → List AC → Prop} {s0 : Int} {m : Ob} (H : M_consult_42 s0 m K) (hK : ∀ (r : Int) (m' : Ob), K r m' → K' (some (vI r)) (shM m')) : EV l prog_13_method_23_code "PrunedSearchModel" 6 (some .int) 4 42 [(0, vR 0)] [vI s0] (shM m) K' := by
  refine EV_istore_n (lv' := [(0, vR 0), (2, vI s0)]) [1, 0] d_M_consult_42 rfl (by decide) rfl ?_
  refine EV_iconst d_M_consult_43 ⟨by decide, by decide⟩ ?_
  refine EV_istore_n (lv' := [(0, vR 0), (2, vI s0), (3, vI 0)]) [1, 2, 0] d_M_consult_44 rfl (by decide) rfl ?_
  obtain ⟨n, H⟩ := H
  exact ct_M_consult_45 hK n s0 0 m H
theorem ct_M_consult {l : Launch} {m : Ob} {K : Int → Ob → Prop} {K' : Option AV → List AC → Prop} (H : wp_M_consult m K) (hK : ∀ (r : Int) (m' : Ob), K r m' → K' (some (vI r)) (shM m')) : MT l ⟨"PrunedSearchModel", "consult", "()I"⟩ prog_13_method_23_code 6 (some .int) 4 [vR 0] (shM m) K' := by
  unfold wp_M_consult at H
  refine MT_of (lv := [(0, vR 0)]) rfl rfl (Nat.le_of_ble_eq_true rfl) rfl ?_
  refine EV_aload_n 0 d_M_consult_0 rfl rfl ?_
  refine EV_iconst d_M_consult_1 ⟨by decide, by decide⟩ ?_
  refine EV_callV (as := [vI 0]) (st := []) d_M_consult_2 k_1152 k_1154 kp_42 k_12 k_1155 shM_0 rfl pd_19 ⟨by decide, by decide, Nat.le_of_ble_eq_true rfl⟩ rfl (ct_M_read H (fun r_2 m_1 H => ?_))
  refine EV_istore_n (lv' := [(0, vR 0), (1, vI r_2)]) [1, 0] d_M_consult_5 rfl (by decide) rfl ?_
  refine EV_aload_n 0 d_M_consult_6 rfl rfl ?_
  refine EV_iconst d_M_consult_7 ⟨by decide, by decide⟩ ?_
  refine EV_put (j := 1) d_M_consult_8 shM_0 rfl fI11 fO11 fN11 (by decide) k_969 rfl rfl (fun ad => nf_int ad _) (Nat.le_of_ble_eq_true rfl) shM_0_1 ?_
  refine EV_aload_n 0 d_M_consult_11 rfl rfl ?_
  refine EV_callV (as := []) (st := []) d_M_consult_12 k_1202 k_1204 kp_54 k_12 k_1205 shM_0 rfl pd_18 ⟨by decide, by decide, Nat.le_of_ble_eq_true rfl⟩ rfl (ct_M_noSearch H (fun m_3 H => ?_))
  refine EV_iload_n 1 d_M_consult_15 rfl rfl ?_
  refine EV_if_lt (tgt := 23) d_M_consult_16 (by decide) (fun hc => ?_) (fun hc => ?_)
  · have H := H.1 hc
    refine EV_aload_n 0 d_M_consult_23 rfl rfl ?_
    refine EV_get (j := 25) d_M_consult_24 shM_0 rfl fI11 (by decide) k_993 rfl ?_
    refine EV_aload_n 0 d_M_consult_27 rfl rfl ?_
    refine EV_get (j := 9) d_M_consult_28 shM_0 rfl fI11 (by decide) k_977 rfl ?_
    obtain ⟨hr, H⟩ := H
    refine EV_iadd d_M_consult_31 hr ?_
    refine EV_bipush d_M_consult_32 (by decide +kernel) ⟨by decide, by decide⟩ ?_
    refine EV_icmp_le (tgt := 41) d_M_consult_34 (by decide) (fun hc => ?_) (fun hc => ?_)
    · have H := H.1 hc
      refine EV_iconst d_M_consult_41 ⟨by decide, by decide⟩ ?_
      refine EV_lv (lv' := [(0, vR 0)]) [0] rfl ?_
      exact ct_M_consult_42 H hK
    · have H := H.2 hc
      refine EV_iconst d_M_consult_37 ⟨by decide, by decide⟩ ?_
      refine EV_goto (tgt := 42) d_M_consult_38 (by decide) ?_
      refine EV_lv (lv' := [(0, vR 0)]) [0] rfl ?_
      exact ct_M_consult_42 H hK
  · have H := H.2 hc
    refine EV_iconst d_M_consult_19 ⟨by decide, by decide⟩ ?_
    refine EV_iload_n 1 d_M_consult_20 rfl rfl ?_
    obtain ⟨hr, H⟩ := H
    refine EV_isub d_M_consult_21 hr ?_
    exact EV_iret d_M_consult_22 rfl (nw_int _) (hK _ _ H)
theorem ct_M_clearFrame_2 {l : Launch} {K : Ob → Prop} {K' : Option AV → List AC → Prop} (hK : ∀ (m' : Ob), K m' → K' none (shM m')) : ∀ (n : Nat) (x1 : Int) (x2 : Int) (m : Ob), M_clearFrame_2 n x1 x2 m K → EV l prog_13_method_32_code "PrunedSearchModel" 3 none 0 2 [(0, vR 0), (1, vI x1), (2, vI x2)] [] (shM m) K' := by
  intro n
  induction n with
  | zero =>
    intro x1 x2 m H
    exact H.elim
  | succ n ih =>
    intro x1 x2 m H
    refine EV_iload_n 2 d_M_clearFrame_2 rfl rfl ?_
    refine EV_bipush d_M_clearFrame_3 (by decide +kernel) ⟨by decide, by decide⟩ ?_
    refine EV_icmp_ge (tgt := 26) d_M_clearFrame_5 (by decide) (fun hc => ?_) (fun hc => ?_)
    · have H := H.1 hc
      exact EV_vret d_M_clearFrame_26 rfl (hK _ H)
    · have H := H.2 hc
      refine EV_aload_n 0 d_M_clearFrame_8 rfl rfl ?_
      refine EV_get (j := 46) d_M_clearFrame_9 shM_0 rfl fI11 (by decide) k_1014 rfl ?_
      refine EV_bipush d_M_clearFrame_12 (by decide +kernel) ⟨by decide, by decide⟩ ?_
      refine EV_iload_n 1 d_M_clearFrame_14 rfl rfl ?_
      obtain ⟨hr, H⟩ := H
      refine EV_imul d_M_clearFrame_15 hr ?_
      refine EV_iload_n 2 d_M_clearFrame_16 rfl rfl ?_
      obtain ⟨hr, H⟩ := H
      refine EV_iadd d_M_clearFrame_17 hr ?_
      refine EV_iconst d_M_clearFrame_18 ⟨by decide, by decide⟩ ?_
      obtain ⟨hi, H⟩ := H
      refine EV_iast d_M_clearFrame_19 shM_27 hi shM_27_s ?_
      obtain ⟨hr, H⟩ := H
      refine EV_iinc (lv' := [(0, vR 0), (1, vI x1), (2, vI (x2 + 1))]) 2 [1, 2, 0] d_M_clearFrame_20 rfl (by decide) hr rfl ?_
      refine EV_goto (tgt := 2) d_M_clearFrame_23 (by decide) ?_
      exact ih x1 (x2 + 1) (sA m 22 ((8 * x1) + x2) (-1)) H
theorem ct_M_clearFrame {l : Launch} {m : Ob} {x1 : Int} {K : Ob → Prop} {K' : Option AV → List AC → Prop} (H : wp_M_clearFrame x1 m K) (hK : ∀ (m' : Ob), K m' → K' none (shM m')) : MT l ⟨"PrunedSearchModel", "clearFrame", "(I)V"⟩ prog_13_method_32_code 3 none 0 [vR 0, vI x1] (shM m) K' := by
  unfold wp_M_clearFrame at H
  refine MT_of (lv := [(0, vR 0), (1, vI x1)]) rfl rfl (Nat.le_of_ble_eq_true rfl) rfl ?_
  refine EV_iconst d_M_clearFrame_0 ⟨by decide, by decide⟩ ?_
  refine EV_istore_n (lv' := [(0, vR 0), (1, vI x1), (2, vI 0)]) [1, 2, 0] d_M_clearFrame_1 rfl (by decide) rfl ?_
  obtain ⟨n, H⟩ := H
  exact ct_M_clearFrame_2 hK n x1 0 m H
theorem ct_M_prepend_10 {l : Launch} {K : Ob → Prop} {K' : Option AV → List AC → Prop} (hK : ∀ (m' : Ob), K m' → K' none (shM m')) : ∀ (n : Nat) (x1 : Int) (x2 : Int) (x3 : Int) (x4 : Int) (m : Ob), M_prepend_10 n x1 x2 x3 x4 m K → EV l prog_13_method_33_code "PrunedSearchModel" 5 none 0 10 [(0, vR 0), (1, vI x1), (2, vI x2), (3, vI x3), (4, vI x4)] [] (shM m) K' := by
  intro n
  induction n with
  | zero =>
    intro x1 x2 x3 x4 m H
    exact H.elim
  | succ n ih =>
    intro x1 x2 x3 x4 m H
    refine EV_iload 4 d_M_prepend_10 rfl ?_
    refine EV_if_lt (tgt := 72) d_M_prepend_12 (by decide) (fun hc => ?_) (fun hc => ?_)
    · have H := H.1 hc
      exact EV_vret d_M_prepend_72 rfl (hK _ H)
    · have H := H.2 hc
      refine EV_aload_n 0 d_M_prepend_15 rfl rfl ?_
      refine EV_get (j := 43) d_M_prepend_16 shM_0 rfl fI11 (by decide) k_1011 rfl ?_
      refine EV_aload_n 0 d_M_prepend_19 rfl rfl ?_
      refine EV_get (j := 42) d_M_prepend_20 shM_0 rfl fI11 (by decide) k_1010 rfl ?_
      refine EV_aload_n 0 d_M_prepend_23 rfl rfl ?_
      refine EV_get (j := 28) d_M_prepend_24 shM_0 rfl fI11 (by decide) k_996 rfl ?_
      refine EV_bipush d_M_prepend_27 (by decide +kernel) ⟨by decide, by decide⟩ ?_
      refine EV_iload_n 1 d_M_prepend_29 rfl rfl ?_
      obtain ⟨hr, H⟩ := H
      refine EV_imul d_M_prepend_30 hr ?_
      refine EV_iload 4 d_M_prepend_31 rfl ?_
      obtain ⟨hr, H⟩ := H
      refine EV_iadd d_M_prepend_33 hr ?_
      obtain ⟨hi, H⟩ := H
      refine EV_iald d_M_prepend_34 shM_17 hi ?_
      obtain ⟨hi, H⟩ := H
      refine EV_iast d_M_prepend_35 shM_24 hi shM_24_s ?_
      refine EV_aload_n 0 d_M_prepend_36 rfl rfl ?_
      refine EV_get (j := 44) d_M_prepend_37 shM_0 rfl fI11 (by decide) k_1012 rfl ?_
      refine EV_aload_n 0 d_M_prepend_40 rfl rfl ?_
      refine EV_get (j := 42) d_M_prepend_41 shM_0 rfl fI11 (by decide) k_1010 rfl ?_
      refine EV_iload_n 2 d_M_prepend_44 rfl rfl ?_
      obtain ⟨hi, H⟩ := H
      refine EV_iast d_M_prepend_45 shM_25 hi shM_25_s ?_
      refine EV_aload_n 0 d_M_prepend_46 rfl rfl ?_
      refine EV_get (j := 45) d_M_prepend_47 shM_0 rfl fI11 (by decide) k_1013 rfl ?_
      refine EV_aload_n 0 d_M_prepend_50 rfl rfl ?_
      refine EV_get (j := 42) d_M_prepend_51 shM_0 rfl fI11 (by decide) k_1010 rfl ?_
      refine EV_iload_n 3 d_M_prepend_54 rfl rfl ?_
      obtain ⟨hi, H⟩ := H
      refine EV_iast d_M_prepend_55 shM_26 hi shM_26_s ?_
      refine EV_aload_n 0 d_M_prepend_56 rfl rfl ?_
      refine EV_aload_n 0 d_M_prepend_57 rfl rfl ?_
      refine EV_get (j := 42) d_M_prepend_58 shM_0 rfl fI11 (by decide) k_1010 rfl ?_
      refine EV_iconst d_M_prepend_61 ⟨by decide, by decide⟩ ?_
      obtain ⟨hr, H⟩ := H
      refine EV_iadd d_M_prepend_62 hr ?_
      refine EV_put (j := 42) d_M_prepend_63 shM_0 rfl fI11 fO11 fN11 (by decide) k_1010 rfl rfl (fun ad => nf_int ad _) (Nat.le_of_ble_eq_true rfl) shM_0_42 ?_
      obtain ⟨hr, H⟩ := H
      refine EV_iinc (lv' := [(0, vR 0), (1, vI x1), (2, vI x2), (3, vI x3), (4, vI (x4 + (-1)))]) 4 [1, 2, 3, 4, 0] d_M_prepend_66 rfl (by decide) hr rfl ?_
      refine EV_goto (tgt := 10) d_M_prepend_69 (by decide) ?_
      exact ih x1 x2 x3 (x4 + (-1)) (sI (sA (sA (sA m 19 (m.1 18) (m.2.1 13 ((8 * x1) + x4))) 20 (m.1 18) x2) 21 (m.1 18) x3) 18 ((m.1 18) + 1)) H
theorem ct_M_prepend {l : Launch} {m : Ob} {x1 : Int} {x2 : Int} {x3 : Int} {K : Ob → Prop} {K' : Option AV → List AC → Prop} (H : wp_M_prepend x1 x2 x3 m K) (hK : ∀ (m' : Ob), K m' → K' none (shM m')) : MT l ⟨"PrunedSearchModel", "prepend", "(III)V"⟩ prog_13_method_33_code 5 none 0 [vR 0, vI x1, vI x2, vI x3] (shM m) K' := by
  unfold wp_M_prepend at H
  refine MT_of (lv := [(0, vR 0), (1, vI x1), (2, vI x2), (3, vI x3)]) rfl rfl (Nat.le_of_ble_eq_true rfl) rfl ?_
  refine EV_aload_n 0 d_M_prepend_0 rfl rfl ?_
  refine EV_get (j := 27) d_M_prepend_1 shM_0 rfl fI11 (by decide) k_995 rfl ?_
  refine EV_iload_n 1 d_M_prepend_4 rfl rfl ?_
  obtain ⟨hi, H⟩ := H
  refine EV_iald d_M_prepend_5 shM_16 hi ?_
  refine EV_iconst d_M_prepend_6 ⟨by decide, by decide⟩ ?_
  obtain ⟨hr, H⟩ := H
  refine EV_isub d_M_prepend_7 hr ?_
  refine EV_istore (lv' := [(0, vR 0), (1, vI x1), (2, vI x2), (3, vI x3), (4, vI ((m.2.1 12 x1) - 1))]) [1, 2, 3, 4, 0] d_M_prepend_8 (by decide) rfl ?_
  obtain ⟨n, H⟩ := H
  exact ct_M_prepend_10 hK n x1 x2 x3 ((m.2.1 12 x1) - 1) m H
theorem ct_M_begin {l : Launch} {m : Ob} {K : Ob → Prop} {K' : Option AV → List AC → Prop} (H : wp_M_begin m K) (hK : ∀ (m' : Ob), K m' → K' none (shM m')) : MT l ⟨"PrunedSearchModel", "begin", "()V"⟩ prog_13_method_34_code 1 none 1 [vR 0] (shM m) K' := by
  unfold wp_M_begin at H
  refine MT_of (lv := [(0, vR 0)]) rfl rfl (Nat.le_of_ble_eq_true rfl) rfl ?_
  refine EV_aload_n 0 d_M_begin_0 rfl rfl ?_
  refine EV_iconst d_M_begin_1 ⟨by decide, by decide⟩ ?_
  refine EV_put (j := 42) d_M_begin_2 shM_0 rfl fI11 fO11 fN11 (by decide) k_1010 rfl rfl (fun ad => nf_int ad _) (Nat.le_of_ble_eq_true rfl) shM_0_42 ?_
  refine EV_aload_n 0 d_M_begin_5 rfl rfl ?_
  refine EV_iconst d_M_begin_6 ⟨by decide, by decide⟩ ?_
  refine EV_put (j := 36) d_M_begin_7 shM_0 rfl fI11 fO11 fN11 (by decide) k_1004 rfl rfl (fun ad => nf_int ad _) (Nat.le_of_ble_eq_true rfl) shM_0_36 ?_
  refine EV_aload_n 0 d_M_begin_10 rfl rfl ?_
  refine EV_iconst d_M_begin_11 ⟨by decide, by decide⟩ ?_
  refine EV_callV (as := [vI 0]) (st := []) d_M_begin_12 k_1230 k_1232 kp_60 k_12 k_1233 shM_0 rfl pd_21 ⟨by decide, by decide, Nat.le_of_ble_eq_true rfl⟩ rfl (ct_M_clearFrame H (fun m_1 H => ?_))
  refine EV_aload_n 0 d_M_begin_15 rfl rfl ?_
  refine EV_bipush d_M_begin_16 (by decide +kernel) ⟨by decide, by decide⟩ ?_
  refine EV_iconst d_M_begin_18 ⟨by decide, by decide⟩ ?_
  refine EV_iconst d_M_begin_19 ⟨by decide, by decide⟩ ?_
  refine EV_callV (as := [vI 24, vI 0, vI 0]) (st := []) d_M_begin_20 k_1234 k_1236 kp_61 k_12 k_1237 shM_0 rfl pd_20 ⟨by decide, by decide, Nat.le_of_ble_eq_true rfl⟩ rfl (ct_M_prepend H (fun m_2 H => ?_))
  exact EV_vret d_M_begin_23 rfl (hK _ H)
theorem ct_M_ask_122 {l : Launch} {K : Int → Ob → Prop} {K' : Option AV → List AC → Prop} {m : Ob} (H : M_ask_122 m K) (hK : ∀ (r : Int) (m' : Ob), K r m' → K' (some (vI r)) (shM m')) : EV l prog_13_method_24_code "PrunedSearchModel" 4 (some .int) 4 122 [(0, vR 0)] [] (shM m) K' := by
  refine EV_aload_n 0 d_M_ask_122 rfl rfl ?_
  refine EV_iconst d_M_ask_123 ⟨by decide, by decide⟩ ?_
  refine EV_put (j := 33) d_M_ask_124 shM_0 rfl fI11 fO11 fN11 (by decide) k_1001 rfl rfl (fun ad => nf_int ad _) (Nat.le_of_ble_eq_true rfl) shM_0_33 ?_
  refine EV_aload_n 0 d_M_ask_127 rfl rfl ?_
  refine EV_callV (as := []) (st := []) d_M_ask_128 k_1226 k_1228 kp_59 k_12 k_1229 shM_0 rfl pd_22 ⟨by decide, by decide, Nat.le_of_ble_eq_true rfl⟩ rfl (ct_M_begin H (fun m_8 H => ?_))
  refine EV_aload_n 0 d_M_ask_131 rfl rfl ?_
  refine EV_get (j := 31) d_M_ask_132 shM_0 rfl fI11 (by decide) k_999 rfl ?_
  exact EV_iret d_M_ask_135 rfl (nw_int _) (hK _ _ H)
theorem ct_M_ask_116 {l : Launch} {K : Int → Ob → Prop} {K' : Option AV → List AC → Prop} {L66 : Int → Ob → Prop} {x3 : Int} {m : Ob} (hL66 : ∀ (x3 : Int) (m : Ob), L66 x3 m → EV l prog_13_method_24_code "PrunedSearchModel" 4 (some .int) 4 66 [(0, vR 0), (3, vI x3)] [] (shM m) K') (H : M_ask_116 L66 x3 m K) (hK : ∀ (r : Int) (m' : Ob), K r m' → K' (some (vI r)) (shM m')) : EV l prog_13_method_24_code "PrunedSearchModel" 4 (some .int) 4 116 [(0, vR 0), (3, vI x3)] [] (shM m) K' := by
  obtain ⟨hr, H⟩ := H
  refine EV_iinc (lv' := [(0, vR 0), (3, vI (x3 + 1))]) 1 [1, 0] d_M_ask_116 rfl (by decide) hr rfl ?_
  refine EV_goto (tgt := 66) d_M_ask_119 (by decide) ?_
  exact hL66 (x3 + 1) m H
theorem ct_M_ask_66 {l : Launch} {K : Int → Ob → Prop} {K' : Option AV → List AC → Prop} (hK : ∀ (r : Int) (m' : Ob), K r m' → K' (some (vI r)) (shM m')) : ∀ (n : Nat) (x3 : Int) (m : Ob), M_ask_66 n x3 m K → EV l prog_13_method_24_code "PrunedSearchModel" 4 (some .int) 4 66 [(0, vR 0), (3, vI x3)] [] (shM m) K' := by
  intro n
  induction n with
  | zero =>
    intro x3 m H
    exact H.elim
  | succ n ih =>
    intro x3 m H
    refine EV_iload_n 1 d_M_ask_66 rfl rfl ?_
    refine EV_aload_n 0 d_M_ask_67 rfl rfl ?_
    refine EV_get (j := 17) d_M_ask_68 shM_0 rfl fI11 (by decide) k_985 rfl ?_
    refine EV_icmp_ge (tgt := 122) d_M_ask_71 (by decide) (fun hc => ?_) (fun hc => ?_)
    · have H := H.1 hc
      refine EV_lv (lv' := [(0, vR 0)]) [0] rfl ?_
      exact ct_M_ask_122 H hK
    · have H := H.2 hc
      refine EV_aload_n 0 d_M_ask_74 rfl rfl ?_
      refine EV_get (j := 15) d_M_ask_75 shM_0 rfl fI11 (by decide) k_983 rfl ?_
      refine EV_iload_n 1 d_M_ask_78 rfl rfl ?_
      obtain ⟨hi, H⟩ := H
      refine EV_lald d_M_ask_79 shM_8 hi ?_
      refine EV_ldc2 (n := 95) d_M_ask_80 k_1197 (by decide +kernel) (by decide) ?_
      refine EV_lcmp_eq (tgt := 116) d_M_ask_83 d_M_ask_84 (by decide) (fun hc => ?_) (fun hc => ?_)
      · have H := H.1 hc
        exact ct_M_ask_116 (fun x3 m' H => ih x3 m' H) H hK
      · have H := H.2 hc
        refine EV_aload_n 0 d_M_ask_87 rfl rfl ?_
        refine EV_get (j := 32) d_M_ask_88 shM_0 rfl fI11 (by decide) k_1000 rfl ?_
        refine EV_aload_n 0 d_M_ask_91 rfl rfl ?_
        refine EV_get (j := 31) d_M_ask_92 shM_0 rfl fI11 (by decide) k_999 rfl ?_
        refine EV_sipush d_M_ask_95 (by decide +kernel) ⟨by decide, by decide⟩ ?_
        refine EV_aload_n 0 d_M_ask_98 rfl rfl ?_
        refine EV_get (j := 16) d_M_ask_99 shM_0 rfl fI11 (by decide) k_984 rfl ?_
        refine EV_iload_n 1 d_M_ask_102 rfl rfl ?_
        obtain ⟨hi, H⟩ := H
        refine EV_iald d_M_ask_103 shM_9 hi ?_
        obtain ⟨hr, H⟩ := H
        refine EV_iadd d_M_ask_104 hr ?_
        obtain ⟨hi, H⟩ := H
        refine EV_iast d_M_ask_105 shM_19 hi shM_19_s ?_
        refine EV_aload_n 0 d_M_ask_106 rfl rfl ?_
        refine EV_aload_n 0 d_M_ask_107 rfl rfl ?_
        refine EV_get (j := 31) d_M_ask_108 shM_0 rfl fI11 (by decide) k_999 rfl ?_
        refine EV_iconst d_M_ask_111 ⟨by decide, by decide⟩ ?_
        obtain ⟨hr, H⟩ := H
        refine EV_iadd d_M_ask_112 hr ?_
        refine EV_put (j := 31) d_M_ask_113 shM_0 rfl fI11 fO11 fN11 (by decide) k_999 rfl rfl (fun ad => nf_int ad _) (Nat.le_of_ble_eq_true rfl) shM_0_31 ?_
        exact ct_M_ask_116 (fun x3 m' H => ih x3 m' H) H hK
theorem ct_M_ask {l : Launch} {m : Ob} {K : Int → Ob → Prop} {K' : Option AV → List AC → Prop} (H : wp_M_ask m K) (hK : ∀ (r : Int) (m' : Ob), K r m' → K' (some (vI r)) (shM m')) : MT l ⟨"PrunedSearchModel", "ask", "()I"⟩ prog_13_method_24_code 4 (some .int) 4 [vR 0] (shM m) K' := by
  unfold wp_M_ask at H
  refine MT_of (lv := [(0, vR 0)]) rfl rfl (Nat.le_of_ble_eq_true rfl) rfl ?_
  refine EV_aload_n 0 d_M_ask_0 rfl rfl ?_
  refine EV_iconst d_M_ask_1 ⟨by decide, by decide⟩ ?_
  refine EV_callV (as := [vI 1]) (st := []) d_M_ask_2 k_1152 k_1154 kp_42 k_12 k_1155 shM_0 rfl pd_19 ⟨by decide, by decide, Nat.le_of_ble_eq_true rfl⟩ rfl (ct_M_read H (fun r_2 m_1 H => ?_))
  refine EV_istore_n (lv' := [(0, vR 0), (1, vI r_2)]) [1, 0] d_M_ask_5 rfl (by decide) rfl ?_
  refine EV_aload_n 0 d_M_ask_6 rfl rfl ?_
  refine EV_iconst d_M_ask_7 ⟨by decide, by decide⟩ ?_
  refine EV_put (j := 1) d_M_ask_8 shM_0 rfl fI11 fO11 fN11 (by decide) k_969 rfl rfl (fun ad => nf_int ad _) (Nat.le_of_ble_eq_true rfl) shM_0_1 ?_
  refine EV_aload_n 0 d_M_ask_11 rfl rfl ?_
  refine EV_callV (as := []) (st := []) d_M_ask_12 k_1202 k_1204 kp_54 k_12 k_1205 shM_0 rfl pd_18 ⟨by decide, by decide, Nat.le_of_ble_eq_true rfl⟩ rfl (ct_M_noSearch H (fun m_3 H => ?_))
  refine EV_iload_n 1 d_M_ask_15 rfl rfl ?_
  refine EV_if_lt (tgt := 23) d_M_ask_16 (by decide) (fun hc => ?_) (fun hc => ?_)
  · have H := H.1 hc
    refine EV_aload_n 0 d_M_ask_23 rfl rfl ?_
    refine EV_callV (as := []) (st := []) d_M_ask_24 k_1214 k_1216 kp_57 k_12 k_1217 shM_0 rfl pd_16 ⟨by decide, by decide, Nat.le_of_ble_eq_true rfl⟩ rfl (ct_M_addNames H (fun r_5 m_4 H => ?_))
    refine EV_istore_n (lv' := [(0, vR 0), (1, vI r_2), (2, vI r_5)]) [1, 2, 0] d_M_ask_27 rfl (by decide) rfl ?_
    refine EV_aload_n 0 d_M_ask_28 rfl rfl ?_
    refine EV_iconst d_M_ask_29 ⟨by decide, by decide⟩ ?_
    refine EV_callV (as := [vI 0]) (st := []) d_M_ask_30 k_1206 k_1208 kp_55 k_12 k_1209 shM_0 rfl pd_17 ⟨by decide, by decide, Nat.le_of_ble_eq_true rfl⟩ rfl (ct_M_tooMuch H (fun r_6 H => ?_))
    refine EV_if_ne (tgt := 42) d_M_ask_33 (by decide) (fun hc => ?_) (fun hc => ?_)
    · have H := H.1 hc
      refine EV_sipush d_M_ask_42 (by decide +kernel) ⟨by decide, by decide⟩ ?_
      exact EV_iret d_M_ask_45 rfl (nw_int _) (hK _ _ H)
    · have H := H.2 hc
      refine EV_iload_n 2 d_M_ask_36 rfl rfl ?_
      refine EV_bipush d_M_ask_37 (by decide +kernel) ⟨by decide, by decide⟩ ?_
      refine EV_icmp_le (tgt := 46) d_M_ask_39 (by decide) (fun hc => ?_) (fun hc => ?_)
      · have H := H.1 hc
        refine EV_aload_n 0 d_M_ask_46 rfl rfl ?_
        refine EV_iload_n 2 d_M_ask_47 rfl rfl ?_
        refine EV_put (j := 29) d_M_ask_48 shM_0 rfl fI11 fO11 fN11 (by decide) k_997 rfl rfl (fun ad => nf_int ad _) (Nat.le_of_ble_eq_true rfl) shM_0_29 ?_
        refine EV_aload_n 0 d_M_ask_51 rfl rfl ?_
        refine EV_iconst d_M_ask_52 ⟨by decide, by decide⟩ ?_
        refine EV_iconst d_M_ask_53 ⟨by decide, by decide⟩ ?_
        refine EV_bipush d_M_ask_54 (by decide +kernel) ⟨by decide, by decide⟩ ?_
        refine EV_callV (as := [vI 0, vI 0, vI 24]) (st := []) d_M_ask_56 k_1218 k_1220 kp_58 k_12 k_1221 shM_0 rfl pd_15 ⟨by decide, by decide, Nat.le_of_ble_eq_true rfl⟩ rfl (ct_M_keep H (fun m_7 H => ?_))
        refine EV_aload_n 0 d_M_ask_59 rfl rfl ?_
        refine EV_iconst d_M_ask_60 ⟨by decide, by decide⟩ ?_
        refine EV_put (j := 31) d_M_ask_61 shM_0 rfl fI11 fO11 fN11 (by decide) k_999 rfl rfl (fun ad => nf_int ad _) (Nat.le_of_ble_eq_true rfl) shM_0_31 ?_
        refine EV_iconst d_M_ask_64 ⟨by decide, by decide⟩ ?_
        refine EV_istore_n (lv' := [(0, vR 0), (1, vI r_2), (2, vI r_5), (3, vI 0)]) [1, 2, 3, 0] d_M_ask_65 rfl (by decide) rfl ?_
        refine EV_lv (lv' := [(0, vR 0), (3, vI 0)]) [0, 3] rfl ?_
        obtain ⟨n, H⟩ := H
        exact ct_M_ask_66 hK n 0 (sI m_7 12 0) H
      · have H := H.2 hc
        refine EV_sipush d_M_ask_42 (by decide +kernel) ⟨by decide, by decide⟩ ?_
        exact EV_iret d_M_ask_45 rfl (nw_int _) (hK _ _ H)
  · have H := H.2 hc
    refine EV_iconst d_M_ask_19 ⟨by decide, by decide⟩ ?_
    refine EV_iload_n 1 d_M_ask_20 rfl rfl ?_
    obtain ⟨hr, H⟩ := H
    refine EV_isub d_M_ask_21 hr ?_
    exact EV_iret d_M_ask_22 rfl (nw_int _) (hK _ _ H)
theorem ct_M_end {l : Launch} {m : Ob} {x1 : Int} {K : Ob → Prop} {K' : Option AV → List AC → Prop} (H : wp_M_end x1 m K) (hK : ∀ (m' : Ob), K m' → K' none (shM m')) : MT l ⟨"PrunedSearchModel", "end", "(I)V"⟩ prog_13_method_40_code 2 none 0 [vR 0, vI x1] (shM m) K' := by
  unfold wp_M_end at H
  refine MT_of (lv := [(0, vR 0), (1, vI x1)]) rfl rfl (Nat.le_of_ble_eq_true rfl) rfl ?_
  refine EV_aload_n 0 d_M_end_0 rfl rfl ?_
  refine EV_iconst d_M_end_1 ⟨by decide, by decide⟩ ?_
  refine EV_put (j := 33) d_M_end_2 shM_0 rfl fI11 fO11 fN11 (by decide) k_1001 rfl rfl (fun ad => nf_int ad _) (Nat.le_of_ble_eq_true rfl) shM_0_33 ?_
  refine EV_aload_n 0 d_M_end_5 rfl rfl ?_
  refine EV_iload_n 1 d_M_end_6 rfl rfl ?_
  refine EV_put (j := 34) d_M_end_7 shM_0 rfl fI11 fO11 fN11 (by decide) k_1002 rfl rfl (fun ad => nf_int ad _) (Nat.le_of_ble_eq_true rfl) shM_0_34 ?_
  exact EV_vret d_M_end_10 rfl (hK _ H)
theorem ct_M_isWordAlone {l : Launch} {m : Ob} {x1 : Int} {y2 : Nat} {K : Int → Prop} {K' : Option AV → List AC → Prop} (H : wp_M_isWordAlone x1 y2 m K) (hK : ∀ (r : Int), K r → K' (some (vI r)) (shM m)) : MT l ⟨"PrunedSearchModel", "isWordAlone", "(IJ)Z"⟩ prog_13_method_35_code 4 (some .boolean) 0 [vR 0, vI x1, vL y2] (shM m) K' := by
  unfold wp_M_isWordAlone at H
  refine MT_of (lv := [(0, vR 0), (1, vI x1), (2, vL y2)]) rfl rfl (Nat.le_of_ble_eq_true rfl) rfl ?_
  refine EV_aload_n 0 d_M_isWordAlone_0 rfl rfl ?_
  refine EV_get (j := 24) d_M_isWordAlone_1 shM_0 rfl fI11 (by decide) k_992 rfl ?_
  refine EV_iload_n 1 d_M_isWordAlone_4 rfl rfl ?_
  obtain ⟨hi, H⟩ := H
  refine EV_iald d_M_isWordAlone_5 shM_14 hi ?_
  refine EV_if_ne (tgt := 24) d_M_isWordAlone_6 (by decide) (fun hc => ?_) (fun hc => ?_)
  · have H := H.1 hc
    refine EV_iconst d_M_isWordAlone_24 ⟨by decide, by decide⟩ ?_
    exact EV_iret d_M_isWordAlone_25 rfl (nw_bool (by decide)) (hK _ H)
  · have H := H.2 hc
    refine EV_aload_n 0 d_M_isWordAlone_9 rfl rfl ?_
    refine EV_get (j := 23) d_M_isWordAlone_10 shM_0 rfl fI11 (by decide) k_991 rfl ?_
    refine EV_iload_n 1 d_M_isWordAlone_13 rfl rfl ?_
    obtain ⟨hi, H⟩ := H
    refine EV_lald d_M_isWordAlone_14 shM_13 hi ?_
    refine EV_lload_n 2 d_M_isWordAlone_15 rfl rfl ?_
    refine EV_lcmp_ne (tgt := 24) d_M_isWordAlone_16 d_M_isWordAlone_17 (by decide) (fun hc => ?_) (fun hc => ?_)
    · have H := H.1 hc
      refine EV_iconst d_M_isWordAlone_24 ⟨by decide, by decide⟩ ?_
      exact EV_iret d_M_isWordAlone_25 rfl (nw_bool (by decide)) (hK _ H)
    · have H := H.2 hc
      refine EV_iconst d_M_isWordAlone_20 ⟨by decide, by decide⟩ ?_
      refine EV_goto (tgt := 25) d_M_isWordAlone_21 (by decide) ?_
      exact EV_iret d_M_isWordAlone_25 rfl (nw_bool (by decide)) (hK _ H)
theorem ct_M_follow_12 {l : Launch} {K : Ob → Prop} {K' : Option AV → List AC → Prop} (hK : ∀ (m' : Ob), K m' → K' none (shM m')) : ∀ (n : Nat) (x3 : Int) (m : Ob), M_follow_12 n x3 m K → EV l prog_13_method_26_code "PrunedSearchModel" 5 none 0 12 [(0, vR 0), (3, vI x3)] [] (shM m) K' := by
  intro n
  induction n with
  | zero =>
    intro x3 m H
    exact H.elim
  | succ n ih =>
    intro x3 m H
    refine EV_iload_n 1 d_M_follow_12 rfl rfl ?_
    refine EV_sipush d_M_follow_13 (by decide +kernel) ⟨by decide, by decide⟩ ?_
    refine EV_icmp_ge (tgt := 91) d_M_follow_16 (by decide) (fun hc => ?_) (fun hc => ?_)
    · have H := H.1 hc
      exact EV_vret d_M_follow_91 rfl (hK _ H)
    · have H := H.2 hc
      refine EV_aload_n 0 d_M_follow_19 rfl rfl ?_
      refine EV_get (j := 24) d_M_follow_20 shM_0 rfl fI11 (by decide) k_992 rfl ?_
      refine EV_aload_n 0 d_M_follow_23 rfl rfl ?_
      refine EV_get (j := 48) d_M_follow_24 shM_0 rfl fI11 (by decide) k_1016 rfl ?_
      obtain ⟨hi, H⟩ := H
      refine EV_iald d_M_follow_27 shM_14 hi ?_
      refine EV_iconst d_M_follow_28 ⟨by decide, by decide⟩ ?_
      refine EV_icmp_ne (tgt := 91) d_M_follow_29 (by decide) (fun hc => ?_) (fun hc => ?_)
      · have H := H.1 hc
        exact EV_vret d_M_follow_91 rfl (hK _ H)
      · have H := H.2 hc
        refine EV_bipush d_M_follow_32 (by decide +kernel) ⟨by decide, by decide⟩ ?_
        refine EV_aload_n 0 d_M_follow_34 rfl rfl ?_
        refine EV_get (j := 49) d_M_follow_35 shM_0 rfl fI11 (by decide) k_1017 rfl ?_
        obtain ⟨hr, H⟩ := H
        refine EV_imul d_M_follow_38 hr ?_
        refine EV_aload_n 0 d_M_follow_39 rfl rfl ?_
        refine EV_get (j := 23) d_M_follow_40 shM_0 rfl fI11 (by decide) k_991 rfl ?_
        refine EV_aload_n 0 d_M_follow_43 rfl rfl ?_
        refine EV_get (j := 48) d_M_follow_44 shM_0 rfl fI11 (by decide) k_1016 rfl ?_
        obtain ⟨hi, H⟩ := H
        refine EV_lald d_M_follow_47 shM_13 hi ?_
        obtain ⟨h0, H⟩ := H
        refine EV_l2i d_M_follow_48 h0 ?_
        obtain ⟨hr, H⟩ := H
        refine EV_iadd d_M_follow_49 hr ?_
        refine EV_istore (lv' := [(0, vR 0), (3, vI x3), (4, vI ((8 * (m.1 20)) + (((m.2.2.2 2 (m.1 19)) : Nat) : Int)))]) [1, 2, 0] d_M_follow_50 (by decide) rfl ?_
        refine EV_aload_n 0 d_M_follow_52 rfl rfl ?_
        refine EV_get (j := 46) d_M_follow_53 shM_0 rfl fI11 (by decide) k_1014 rfl ?_
        refine EV_iload 2 d_M_follow_56 rfl ?_
        obtain ⟨hi, H⟩ := H
        refine EV_iald d_M_follow_58 shM_27 hi ?_
        refine EV_if_ge (tgt := 63) d_M_follow_59 (by decide) (fun hc => ?_) (fun hc => ?_)
        · have H := H.1 hc
          refine EV_aload_n 0 d_M_follow_63 rfl rfl ?_
          refine EV_aload_n 0 d_M_follow_64 rfl rfl ?_
          refine EV_get (j := 46) d_M_follow_65 shM_0 rfl fI11 (by decide) k_1014 rfl ?_
          refine EV_iload 2 d_M_follow_68 rfl ?_
          obtain ⟨hi, H⟩ := H
          refine EV_iald d_M_follow_70 shM_27 hi ?_
          refine EV_put (j := 48) d_M_follow_71 shM_0 rfl fI11 fO11 fN11 (by decide) k_1016 rfl rfl (fun ad => nf_int ad _) (Nat.le_of_ble_eq_true rfl) shM_0_48 ?_
          refine EV_aload_n 0 d_M_follow_74 rfl rfl ?_
          refine EV_aload_n 0 d_M_follow_75 rfl rfl ?_
          refine EV_get (j := 47) d_M_follow_76 shM_0 rfl fI11 (by decide) k_1015 rfl ?_
          refine EV_iload 2 d_M_follow_79 rfl ?_
          obtain ⟨hi, H⟩ := H
          refine EV_iald d_M_follow_81 shM_28 hi ?_
          refine EV_put (j := 49) d_M_follow_82 shM_0 rfl fI11 fO11 fN11 (by decide) k_1017 rfl rfl (fun ad => nf_int ad _) (Nat.le_of_ble_eq_true rfl) shM_0_49 ?_
          obtain ⟨hr, H⟩ := H
          refine EV_iinc (lv' := [(0, vR 0), (3, vI (x3 + 1)), (4, vI ((8 * (m.1 20)) + (((m.2.2.2 2 (m.1 19)) : Nat) : Int)))]) 1 [1, 0, 2] d_M_follow_85 rfl (by decide) hr rfl ?_
          refine EV_goto (tgt := 12) d_M_follow_88 (by decide) ?_
          refine EV_lv (lv' := [(0, vR 0), (3, vI (x3 + 1))]) [0, 1] rfl ?_
          exact ih (x3 + 1) (sI (sI m 19 (m.2.1 22 ((8 * (m.1 20)) + (((m.2.2.2 2 (m.1 19)) : Nat) : Int)))) 20 (m.2.1 23 ((8 * (m.1 20)) + (((m.2.2.2 2 (m.1 19)) : Nat) : Int)))) H
        · have H := H.2 hc
          exact EV_vret d_M_follow_62 rfl (hK _ H)
theorem ct_M_follow {l : Launch} {m : Ob} {x1 : Int} {x2 : Int} {K : Ob → Prop} {K' : Option AV → List AC → Prop} (H : wp_M_follow x1 x2 m K) (hK : ∀ (m' : Ob), K m' → K' none (shM m')) : MT l ⟨"PrunedSearchModel", "follow", "(II)V"⟩ prog_13_method_26_code 5 none 0 [vR 0, vI x1, vI x2] (shM m) K' := by
  unfold wp_M_follow at H
  refine MT_of (lv := [(0, vR 0), (1, vI x1), (2, vI x2)]) rfl rfl (Nat.le_of_ble_eq_true rfl) rfl ?_
  refine EV_aload_n 0 d_M_follow_0 rfl rfl ?_
  refine EV_iload_n 1 d_M_follow_1 rfl rfl ?_
  refine EV_put (j := 48) d_M_follow_2 shM_0 rfl fI11 fO11 fN11 (by decide) k_1016 rfl rfl (fun ad => nf_int ad _) (Nat.le_of_ble_eq_true rfl) shM_0_48 ?_
  refine EV_aload_n 0 d_M_follow_5 rfl rfl ?_
  refine EV_iload_n 2 d_M_follow_6 rfl rfl ?_
  refine EV_put (j := 49) d_M_follow_7 shM_0 rfl fI11 fO11 fN11 (by decide) k_1017 rfl rfl (fun ad => nf_int ad _) (Nat.le_of_ble_eq_true rfl) shM_0_49 ?_
  refine EV_iconst d_M_follow_10 ⟨by decide, by decide⟩ ?_
  refine EV_istore_n (lv' := [(0, vR 0), (1, vI x1), (2, vI x2), (3, vI 0)]) [1, 2, 3, 0] d_M_follow_11 rfl (by decide) rfl ?_
  refine EV_lv (lv' := [(0, vR 0), (3, vI 0)]) [0, 3] rfl ?_
  obtain ⟨n, H⟩ := H
  exact ct_M_follow_12 hK n 0 (sI (sI m 19 x1) 20 x2) H
theorem ct_M_candidate_159 {l : Launch} {K : Int → Ob → Prop} {K' : Option AV → List AC → Prop} {L5 : Int → Int → Int → Ob → Prop} {x1 : Int} {x2 : Int} {x4 : Int} {x6 : Int} {m : Ob} (hL5 : ∀ (x1 : Int) (x2 : Int) (x4 : Int) (m : Ob), L5 x1 x2 x4 m → EV l prog_13_method_38_code "PrunedSearchModel" 8 (some .int) 1 5 [(0, vR 0), (1, vI x1), (2, vI x2), (4, vI x4)] [] (shM m) K') (H : M_candidate_159 L5 x1 x2 x4 x6 m K) (hK : ∀ (r : Int) (m' : Ob), K r m' → K' (some (vI r)) (shM m')) : EV l prog_13_method_38_code "PrunedSearchModel" 8 (some .int) 1 159 [(0, vR 0), (1, vI x1), (2, vI x2), (4, vI x4), (6, vI x6)] [] (shM m) K' := by
  refine EV_iload 4 d_M_candidate_159 rfl ?_
  refine EV_if_eq (tgt := 167) d_M_candidate_161 (by decide) (fun hc => ?_) (fun hc => ?_)
  · have H := H.1 hc
    obtain ⟨hr, H⟩ := H
    refine EV_iinc (lv' := [(0, vR 0), (1, vI x1), (2, vI x2), (4, vI (x4 + 1)), (6, vI x6)]) 3 [1, 2, 3, 0, 4] d_M_candidate_167 rfl (by decide) hr rfl ?_
    refine EV_goto (tgt := 5) d_M_candidate_170 (by decide) ?_
    refine EV_lv (lv' := [(0, vR 0), (1, vI x1), (2, vI x2), (4, vI (x4 + 1))]) [0, 1, 2, 3] rfl ?_
    exact hL5 x1 x2 (x4 + 1) m H
  · have H := H.2 hc
    refine EV_iload 3 d_M_candidate_164 rfl ?_
    exact EV_iret d_M_candidate_166 rfl (nw_int _) (hK _ _ H)
theorem ct_M_candidate_157 {l : Launch} {K : Int → Ob → Prop} {K' : Option AV → List AC → Prop} {L5 : Int → Int → Int → Ob → Prop} {x1 : Int} {x2 : Int} {x4 : Int} {s0 : Int} {m : Ob} (hL5 : ∀ (x1 : Int) (x2 : Int) (x4 : Int) (m : Ob), L5 x1 x2 x4 m → EV l prog_13_method_38_code "PrunedSearchModel" 8 (some .int) 1 5 [(0, vR 0), (1, vI x1), (2, vI x2), (4, vI x4)] [] (shM m) K') (H : M_candidate_157 L5 x1 x2 x4 s0 m K) (hK : ∀ (r : Int) (m' : Ob), K r m' → K' (some (vI r)) (shM m')) : EV l prog_13_method_38_code "PrunedSearchModel" 8 (some .int) 1 157 [(0, vR 0), (1, vI x1), (2, vI x2), (4, vI x4)] [vI s0] (shM m) K' := by
  refine EV_istore (lv' := [(0, vR 0), (1, vI x1), (2, vI x2), (4, vI x4), (6, vI s0)]) [1, 2, 3, 4, 0] d_M_candidate_157 (by decide) rfl ?_
  exact ct_M_candidate_159 hL5 H hK
theorem ct_M_candidate_152 {l : Launch} {K : Int → Ob → Prop} {K' : Option AV → List AC → Prop} {L5 : Int → Int → Int → Ob → Prop} {x1 : Int} {x2 : Int} {x4 : Int} {m : Ob} (hL5 : ∀ (x1 : Int) (x2 : Int) (x4 : Int) (m : Ob), L5 x1 x2 x4 m → EV l prog_13_method_38_code "PrunedSearchModel" 8 (some .int) 1 5 [(0, vR 0), (1, vI x1), (2, vI x2), (4, vI x4)] [] (shM m) K') (H : M_candidate_152 L5 x1 x2 x4 m K) (hK : ∀ (r : Int) (m' : Ob), K r m' → K' (some (vI r)) (shM m')) : EV l prog_13_method_38_code "PrunedSearchModel" 8 (some .int) 1 152 [(0, vR 0), (1, vI x1), (2, vI x2), (4, vI x4)] [] (shM m) K' := by
  refine EV_iconst d_M_candidate_152 ⟨by decide, by decide⟩ ?_
  refine EV_goto (tgt := 157) d_M_candidate_153 (by decide) ?_
  exact ct_M_candidate_157 hL5 H hK
theorem ct_M_candidate_156 {l : Launch} {K : Int → Ob → Prop} {K' : Option AV → List AC → Prop} {L5 : Int → Int → Int → Ob → Prop} {x1 : Int} {x2 : Int} {x4 : Int} {m : Ob} (hL5 : ∀ (x1 : Int) (x2 : Int) (x4 : Int) (m : Ob), L5 x1 x2 x4 m → EV l prog_13_method_38_code "PrunedSearchModel" 8 (some .int) 1 5 [(0, vR 0), (1, vI x1), (2, vI x2), (4, vI x4)] [] (shM m) K') (H : M_candidate_156 L5 x1 x2 x4 m K) (hK : ∀ (r : Int) (m' : Ob), K r m' → K' (some (vI r)) (shM m')) : EV l prog_13_method_38_code "PrunedSearchModel" 8 (some .int) 1 156 [(0, vR 0), (1, vI x1), (2, vI x2), (4, vI x4)] [] (shM m) K' := by
  refine EV_iconst d_M_candidate_156 ⟨by decide, by decide⟩ ?_
  exact ct_M_candidate_157 hL5 H hK
theorem ct_M_candidate_59 {l : Launch} {K : Int → Ob → Prop} {K' : Option AV → List AC → Prop} {L5 : Int → Int → Int → Ob → Prop} {x1 : Int} {x2 : Int} {x4 : Int} {x5 : Int} {s0 : Int} {m : Ob} (hL5 : ∀ (x1 : Int) (x2 : Int) (x4 : Int) (m : Ob), L5 x1 x2 x4 m → EV l prog_13_method_38_code "PrunedSearchModel" 8 (some .int) 1 5 [(0, vR 0), (1, vI x1), (2, vI x2), (4, vI x4)] [] (shM m) K') (H : M_candidate_59 L5 x1 x2 x4 x5 s0 m K) (hK : ∀ (r : Int) (m' : Ob), K r m' → K' (some (vI r)) (shM m')) : EV l prog_13_method_38_code "PrunedSearchModel" 8 (some .int) 1 59 [(0, vR 0), (1, vI x1), (2, vI x2), (4, vI x4), (5, vI x5)] [vI s0] (shM m) K' := by
  refine EV_istore (lv' := [(0, vR 0), (1, vI x1), (2, vI x2), (4, vI x4), (5, vI x5), (6, vI s0)]) [1, 2, 3, 4, 5, 0] d_M_candidate_59 (by decide) rfl ?_
  refine EV_iload 5 d_M_candidate_61 rfl ?_
  refine EV_if_eq (tgt := 159) d_M_candidate_63 (by decide) (fun hc => ?_) (fun hc => ?_)
  · have H := H.1 hc
    refine EV_lv (lv' := [(0, vR 0), (1, vI x1), (2, vI x2), (4, vI x4), (6, vI s0)]) [0, 1, 2, 3, 5] rfl ?_
    exact ct_M_candidate_159 hL5 H hK
  · have H := H.2 hc
    refine EV_aload_n 0 d_M_candidate_66 rfl rfl ?_
    refine EV_get (j := 24) d_M_candidate_67 shM_0 rfl fI11 (by decide) k_992 rfl ?_
    refine EV_iload_n 1 d_M_candidate_70 rfl rfl ?_
    obtain ⟨hi, H⟩ := H
    refine EV_iald d_M_candidate_71 shM_14 hi ?_
    refine EV_if_le (tgt := 159) d_M_candidate_72 (by decide) (fun hc => ?_) (fun hc => ?_)
    · have H := H.1 hc
      refine EV_lv (lv' := [(0, vR 0), (1, vI x1), (2, vI x2), (4, vI x4), (6, vI s0)]) [0, 1, 2, 3, 5] rfl ?_
      exact ct_M_candidate_159 hL5 H hK
    · have H := H.2 hc
      refine EV_aload_n 0 d_M_candidate_75 rfl rfl ?_
      refine EV_iload_n 1 d_M_candidate_76 rfl rfl ?_
      refine EV_iconst d_M_candidate_77 ⟨by decide, by decide⟩ ?_
      obtain ⟨hr, H⟩ := H
      refine EV_iadd d_M_candidate_78 hr ?_
      refine EV_iload_n 2 d_M_candidate_79 rfl rfl ?_
      refine EV_callV (as := [vI (x1 + 1), vI x2]) (st := []) d_M_candidate_80 k_1264 k_1266 kp_67 k_12 k_1267 shM_0 rfl pd_23 ⟨by decide, by decide, Nat.le_of_ble_eq_true rfl⟩ rfl (ct_M_follow H (fun m_1 H => ?_))
      refine EV_iload 4 d_M_candidate_83 rfl ?_
      refine EV_iconst d_M_candidate_85 ⟨by decide, by decide⟩ ?_
      obtain ⟨hr, H⟩ := H
      refine EV_iadd d_M_candidate_86 hr ?_
      refine EV_istore (lv' := [(0, vR 0), (1, vI x1), (2, vI x2), (4, vI x4), (5, vI x5), (6, vI s0), (7, vI (x5 + 1))]) [1, 2, 3, 4, 5, 6, 0] d_M_candidate_87 (by decide) rfl ?_
      refine EV_aload_n 0 d_M_candidate_89 rfl rfl ?_
      refine EV_get (j := 24) d_M_candidate_90 shM_0 rfl fI11 (by decide) k_992 rfl ?_
      refine EV_iload 6 d_M_candidate_93 rfl ?_
      obtain ⟨hi, H⟩ := H
      refine EV_iald d_M_candidate_95 shM_14 hi ?_
      refine EV_iconst d_M_candidate_96 ⟨by decide, by decide⟩ ?_
      refine EV_icmp_eq (tgt := 152) d_M_candidate_97 (by decide) (fun hc => ?_) (fun hc => ?_)
      · have H := H.1 hc
        refine EV_lv (lv' := [(0, vR 0), (1, vI x1), (2, vI x2), (4, vI x4)]) [0, 1, 2, 3] rfl ?_
        exact ct_M_candidate_152 hL5 H hK
      · have H := H.2 hc
        refine EV_aload_n 0 d_M_candidate_100 rfl rfl ?_
        refine EV_get (j := 24) d_M_candidate_101 shM_0 rfl fI11 (by decide) k_992 rfl ?_
        refine EV_aload_n 0 d_M_candidate_104 rfl rfl ?_
        refine EV_get (j := 48) d_M_candidate_105 shM_0 rfl fI11 (by decide) k_1016 rfl ?_
        obtain ⟨hi, H⟩ := H
        refine EV_iald d_M_candidate_108 shM_14 hi ?_
        refine EV_iconst d_M_candidate_109 ⟨by decide, by decide⟩ ?_
        refine EV_icmp_eq (tgt := 152) d_M_candidate_110 (by decide) (fun hc => ?_) (fun hc => ?_)
        · have H := H.1 hc
          refine EV_lv (lv' := [(0, vR 0), (1, vI x1), (2, vI x2), (4, vI x4)]) [0, 1, 2, 3] rfl ?_
          exact ct_M_candidate_152 hL5 H hK
        · have H := H.2 hc
          refine EV_aload_n 0 d_M_candidate_113 rfl rfl ?_
          refine EV_get (j := 23) d_M_candidate_114 shM_0 rfl fI11 (by decide) k_991 rfl ?_
          refine EV_iload 6 d_M_candidate_117 rfl ?_
          obtain ⟨hi, H⟩ := H
          refine EV_lald d_M_candidate_119 shM_13 hi ?_
          refine EV_aload_n 0 d_M_candidate_120 rfl rfl ?_
          refine EV_get (j := 23) d_M_candidate_121 shM_0 rfl fI11 (by decide) k_991 rfl ?_
          refine EV_aload_n 0 d_M_candidate_124 rfl rfl ?_
          refine EV_get (j := 48) d_M_candidate_125 shM_0 rfl fI11 (by decide) k_1016 rfl ?_
          obtain ⟨hi, H⟩ := H
          refine EV_lald d_M_candidate_128 shM_13 hi ?_
          refine EV_lcmp_ne (tgt := 156) d_M_candidate_129 d_M_candidate_130 (by decide) (fun hc => ?_) (fun hc => ?_)
          · have H := H.1 hc
            refine EV_lv (lv' := [(0, vR 0), (1, vI x1), (2, vI x2), (4, vI x4)]) [0, 1, 2, 3] rfl ?_
            exact ct_M_candidate_156 hL5 H hK
          · have H := H.2 hc
            refine EV_aload_n 0 d_M_candidate_133 rfl rfl ?_
            refine EV_get (j := 24) d_M_candidate_134 shM_0 rfl fI11 (by decide) k_992 rfl ?_
            refine EV_iload 6 d_M_candidate_137 rfl ?_
            obtain ⟨hi, H⟩ := H
            refine EV_iald d_M_candidate_139 shM_14 hi ?_
            refine EV_aload_n 0 d_M_candidate_140 rfl rfl ?_
            refine EV_get (j := 24) d_M_candidate_141 shM_0 rfl fI11 (by decide) k_992 rfl ?_
            refine EV_aload_n 0 d_M_candidate_144 rfl rfl ?_
            refine EV_get (j := 48) d_M_candidate_145 shM_0 rfl fI11 (by decide) k_1016 rfl ?_
            obtain ⟨hi, H⟩ := H
            refine EV_iald d_M_candidate_148 shM_14 hi ?_
            refine EV_icmp_ne (tgt := 156) d_M_candidate_149 (by decide) (fun hc => ?_) (fun hc => ?_)
            · have H := H.1 hc
              refine EV_lv (lv' := [(0, vR 0), (1, vI x1), (2, vI x2), (4, vI x4)]) [0, 1, 2, 3] rfl ?_
              exact ct_M_candidate_156 hL5 H hK
            · have H := H.2 hc
              refine EV_lv (lv' := [(0, vR 0), (1, vI x1), (2, vI x2), (4, vI x4)]) [0, 1, 2, 3] rfl ?_
              exact ct_M_candidate_152 hL5 H hK
theorem ct_M_candidate_58 {l : Launch} {K : Int → Ob → Prop} {K' : Option AV → List AC → Prop} {L5 : Int → Int → Int → Ob → Prop} {x1 : Int} {x2 : Int} {x4 : Int} {x5 : Int} {m : Ob} (hL5 : ∀ (x1 : Int) (x2 : Int) (x4 : Int) (m : Ob), L5 x1 x2 x4 m → EV l prog_13_method_38_code "PrunedSearchModel" 8 (some .int) 1 5 [(0, vR 0), (1, vI x1), (2, vI x2), (4, vI x4)] [] (shM m) K') (H : M_candidate_58 L5 x1 x2 x4 x5 m K) (hK : ∀ (r : Int) (m' : Ob), K r m' → K' (some (vI r)) (shM m')) : EV l prog_13_method_38_code "PrunedSearchModel" 8 (some .int) 1 58 [(0, vR 0), (1, vI x1), (2, vI x2), (4, vI x4), (5, vI x5)] [] (shM m) K' := by
  refine EV_iconst d_M_candidate_58 ⟨by decide, by decide⟩ ?_
  exact ct_M_candidate_59 hL5 H hK
theorem ct_M_candidate_5 {l : Launch} {K : Int → Ob → Prop} {K' : Option AV → List AC → Prop} (hK : ∀ (r : Int) (m' : Ob), K r m' → K' (some (vI r)) (shM m')) : ∀ (n : Nat) (x1 : Int) (x2 : Int) (x4 : Int) (m : Ob), M_candidate_5 n x1 x2 x4 m K → EV l prog_13_method_38_code "PrunedSearchModel" 8 (some .int) 1 5 [(0, vR 0), (1, vI x1), (2, vI x2), (4, vI x4)] [] (shM m) K' := by
  intro n
  induction n with
  | zero =>
    intro x1 x2 x4 m H
    exact H.elim
  | succ n ih =>
    intro x1 x2 x4 m H
    refine EV_iload 3 d_M_candidate_5 rfl ?_
    refine EV_aload_n 0 d_M_candidate_7 rfl rfl ?_
    refine EV_get (j := 25) d_M_candidate_8 shM_0 rfl fI11 (by decide) k_993 rfl ?_
    refine EV_icmp_ge (tgt := 173) d_M_candidate_11 (by decide) (fun hc => ?_) (fun hc => ?_)
    · have H := H.1 hc
      refine EV_iconst d_M_candidate_173 ⟨by decide, by decide⟩ ?_
      exact EV_iret d_M_candidate_174 rfl (nw_int _) (hK _ _ H)
    · have H := H.2 hc
      refine EV_bipush d_M_candidate_14 (by decide +kernel) ⟨by decide, by decide⟩ ?_
      refine EV_iload 3 d_M_candidate_16 rfl ?_
      obtain ⟨hr, H⟩ := H
      refine EV_imul d_M_candidate_18 hr ?_
      refine EV_istore (lv' := [(0, vR 0), (1, vI x1), (2, vI x2), (4, vI x4), (5, vI (40 * x4))]) [1, 2, 3, 4, 0] d_M_candidate_19 (by decide) rfl ?_
      refine EV_aload_n 0 d_M_candidate_21 rfl rfl ?_
      refine EV_get (j := 23) d_M_candidate_22 shM_0 rfl fI11 (by decide) k_991 rfl ?_
      refine EV_iload 4 d_M_candidate_25 rfl ?_
      obtain ⟨hi, H⟩ := H
      refine EV_lald d_M_candidate_27 shM_13 hi ?_
      refine EV_aload_n 0 d_M_candidate_28 rfl rfl ?_
      refine EV_get (j := 23) d_M_candidate_29 shM_0 rfl fI11 (by decide) k_991 rfl ?_
      refine EV_iload_n 1 d_M_candidate_32 rfl rfl ?_
      obtain ⟨hi, H⟩ := H
      refine EV_lald d_M_candidate_33 shM_13 hi ?_
      refine EV_lcmp_ne (tgt := 58) d_M_candidate_34 d_M_candidate_35 (by decide) (fun hc => ?_) (fun hc => ?_)
      · have H := H.1 hc
        exact ct_M_candidate_58 (fun x1 x2 x4 m' H => ih x1 x2 x4 m' H) H hK
      · have H := H.2 hc
        refine EV_aload_n 0 d_M_candidate_38 rfl rfl ?_
        refine EV_get (j := 24) d_M_candidate_39 shM_0 rfl fI11 (by decide) k_992 rfl ?_
        refine EV_iload 4 d_M_candidate_42 rfl ?_
        obtain ⟨hi, H⟩ := H
        refine EV_iald d_M_candidate_44 shM_14 hi ?_
        refine EV_aload_n 0 d_M_candidate_45 rfl rfl ?_
        refine EV_get (j := 24) d_M_candidate_46 shM_0 rfl fI11 (by decide) k_992 rfl ?_
        refine EV_iload_n 1 d_M_candidate_49 rfl rfl ?_
        obtain ⟨hi, H⟩ := H
        refine EV_iald d_M_candidate_50 shM_14 hi ?_
        refine EV_icmp_ne (tgt := 58) d_M_candidate_51 (by decide) (fun hc => ?_) (fun hc => ?_)
        · have H := H.1 hc
          exact ct_M_candidate_58 (fun x1 x2 x4 m' H => ih x1 x2 x4 m' H) H hK
        · have H := H.2 hc
          refine EV_iconst d_M_candidate_54 ⟨by decide, by decide⟩ ?_
          refine EV_goto (tgt := 59) d_M_candidate_55 (by decide) ?_
          exact ct_M_candidate_59 (fun x1 x2 x4 m' H => ih x1 x2 x4 m' H) H hK
theorem ct_M_candidate {l : Launch} {m : Ob} {x1 : Int} {x2 : Int} {x3 : Int} {K : Int → Ob → Prop} {K' : Option AV → List AC → Prop} (H : wp_M_candidate x1 x2 x3 m K) (hK : ∀ (r : Int) (m' : Ob), K r m' → K' (some (vI r)) (shM m')) : MT l ⟨"PrunedSearchModel", "candidate", "(III)I"⟩ prog_13_method_38_code 8 (some .int) 1 [vR 0, vI x1, vI x2, vI x3] (shM m) K' := by
  unfold wp_M_candidate at H
  refine MT_of (lv := [(0, vR 0), (1, vI x1), (2, vI x2), (3, vI x3)]) rfl rfl (Nat.le_of_ble_eq_true rfl) rfl ?_
  refine EV_iload_n 3 d_M_candidate_0 rfl rfl ?_
  refine EV_iconst d_M_candidate_1 ⟨by decide, by decide⟩ ?_
  obtain ⟨hr, H⟩ := H
  refine EV_iadd d_M_candidate_2 hr ?_
  refine EV_istore (lv' := [(0, vR 0), (1, vI x1), (2, vI x2), (3, vI x3), (4, vI (x3 + 1))]) [1, 2, 3, 4, 0] d_M_candidate_3 (by decide) rfl ?_
  refine EV_lv (lv' := [(0, vR 0), (1, vI x1), (2, vI x2), (4, vI (x3 + 1))]) [0, 1, 2, 4] rfl ?_
  obtain ⟨n, H⟩ := H
  exact ct_M_candidate_5 hK n x1 x2 (x3 + 1) m H
theorem ct_M_behind_29 {l : Launch} {m : Ob} {K : Int → Prop} {K' : Option AV → List AC → Prop} {L4 : Int → Int → Prop} {x2 : Int} {s0 : Int} (hL4 : ∀ (x2 : Int) (x3 : Int), L4 x2 x3 → EV l prog_13_method_25_code "PrunedSearchModel" 4 (some .int) 0 4 [(0, vR 0), (2, vI x2), (3, vI x3)] [] (shM m) K') (H : M_behind_29 L4 x2 s0 m K) (hK : ∀ (r : Int), K r → K' (some (vI r)) (shM m)) : EV l prog_13_method_25_code "PrunedSearchModel" 4 (some .int) 0 29 [(0, vR 0), (2, vI x2)] [vI s0] (shM m) K' := by
  refine EV_istore_n (lv' := [(0, vR 0), (2, vI x2), (3, vI s0)]) [1, 2, 0] d_M_behind_29 rfl (by decide) rfl ?_
  refine EV_iload_n 1 d_M_behind_30 rfl rfl ?_
  refine EV_iconst d_M_behind_31 ⟨by decide, by decide⟩ ?_
  obtain ⟨hr, H⟩ := H
  refine EV_iadd d_M_behind_32 hr ?_
  refine EV_istore_n (lv' := [(0, vR 0), (2, vI (x2 + 1)), (3, vI s0)]) [1, 0, 2] d_M_behind_33 rfl (by decide) rfl ?_
  obtain ⟨hr, H⟩ := H
  refine EV_iinc (lv' := [(0, vR 0), (2, vI (x2 + 1)), (3, vI (s0 + (-1)))]) 2 [1, 2, 0] d_M_behind_34 rfl (by decide) hr rfl ?_
  refine EV_goto (tgt := 4) d_M_behind_37 (by decide) ?_
  exact hL4 (x2 + 1) (s0 + (-1)) H
theorem ct_M_behind_4 {l : Launch} {m : Ob} {K : Int → Prop} {K' : Option AV → List AC → Prop} (hK : ∀ (r : Int), K r → K' (some (vI r)) (shM m)) : ∀ (n : Nat) (x2 : Int) (x3 : Int), M_behind_4 n x2 x3 m K → EV l prog_13_method_25_code "PrunedSearchModel" 4 (some .int) 0 4 [(0, vR 0), (2, vI x2), (3, vI x3)] [] (shM m) K' := by
  intro n
  induction n with
  | zero =>
    intro x2 x3 H
    exact H.elim
  | succ n ih =>
    intro x2 x3 H
    refine EV_iload_n 2 d_M_behind_4 rfl rfl ?_
    refine EV_if_le (tgt := 40) d_M_behind_5 (by decide) (fun hc => ?_) (fun hc => ?_)
    · have H := H.1 hc
      refine EV_iload_n 1 d_M_behind_40 rfl rfl ?_
      exact EV_iret d_M_behind_41 rfl (nw_int _) (hK _ H)
    · have H := H.2 hc
      refine EV_aload_n 0 d_M_behind_8 rfl rfl ?_
      refine EV_get (j := 24) d_M_behind_9 shM_0 rfl fI11 (by decide) k_992 rfl ?_
      refine EV_iload_n 1 d_M_behind_12 rfl rfl ?_
      obtain ⟨hi, H⟩ := H
      refine EV_iald d_M_behind_13 shM_14 hi ?_
      refine EV_if_le (tgt := 28) d_M_behind_14 (by decide) (fun hc => ?_) (fun hc => ?_)
      · have H := H.1 hc
        refine EV_iload_n 2 d_M_behind_28 rfl rfl ?_
        refine EV_lv (lv' := [(0, vR 0), (2, vI x2)]) [0, 1] rfl ?_
        exact ct_M_behind_29 (fun x2 x3 H => ih x2 x3 H) H hK
      · have H := H.2 hc
        refine EV_iload_n 2 d_M_behind_17 rfl rfl ?_
        refine EV_aload_n 0 d_M_behind_18 rfl rfl ?_
        refine EV_get (j := 24) d_M_behind_19 shM_0 rfl fI11 (by decide) k_992 rfl ?_
        refine EV_iload_n 1 d_M_behind_22 rfl rfl ?_
        obtain ⟨hi, H⟩ := H
        refine EV_iald d_M_behind_23 shM_14 hi ?_
        obtain ⟨hr, H⟩ := H
        refine EV_iadd d_M_behind_24 hr ?_
        refine EV_goto (tgt := 29) d_M_behind_25 (by decide) ?_
        refine EV_lv (lv' := [(0, vR 0), (2, vI x2)]) [0, 1] rfl ?_
        exact ct_M_behind_29 (fun x2 x3 H => ih x2 x3 H) H hK
theorem ct_M_behind {l : Launch} {m : Ob} {x1 : Int} {K : Int → Prop} {K' : Option AV → List AC → Prop} (H : wp_M_behind x1 m K) (hK : ∀ (r : Int), K r → K' (some (vI r)) (shM m)) : MT l ⟨"PrunedSearchModel", "behind", "(I)I"⟩ prog_13_method_25_code 4 (some .int) 0 [vR 0, vI x1] (shM m) K' := by
  unfold wp_M_behind at H
  refine MT_of (lv := [(0, vR 0), (1, vI x1)]) rfl rfl (Nat.le_of_ble_eq_true rfl) rfl ?_
  refine EV_iload_n 1 d_M_behind_0 rfl rfl ?_
  refine EV_istore_n (lv' := [(0, vR 0), (1, vI x1), (2, vI x1)]) [1, 2, 0] d_M_behind_1 rfl (by decide) rfl ?_
  refine EV_iconst d_M_behind_2 ⟨by decide, by decide⟩ ?_
  refine EV_istore_n (lv' := [(0, vR 0), (1, vI x1), (2, vI x1), (3, vI 1)]) [1, 2, 3, 0] d_M_behind_3 rfl (by decide) rfl ?_
  refine EV_lv (lv' := [(0, vR 0), (2, vI x1), (3, vI 1)]) [0, 2, 3] rfl ?_
  obtain ⟨n, H⟩ := H
  exact ct_M_behind_4 hK n x1 1 H
theorem ct_M_pushAll_78 {l : Launch} {K : Int → Ob → Prop} {K' : Option AV → List AC → Prop} {x3 : Int} {x4 : Int} {m : Ob} (H : M_pushAll_78 x3 x4 m K) (hK : ∀ (r : Int) (m' : Ob), K r m' → K' (some (vI r)) (shM m')) : EV l prog_13_method_27_code "PrunedSearchModel" 7 (some .int) 1 78 [(3, vI x3), (4, vI x4)] [] (shM m) K' := by
  refine EV_iload_n 0 d_M_pushAll_78 rfl rfl ?_
  refine EV_iconst d_M_pushAll_79 ⟨by decide, by decide⟩ ?_
  refine EV_iload 1 d_M_pushAll_80 rfl ?_
  obtain ⟨hr, H⟩ := H
  refine EV_imul d_M_pushAll_82 hr ?_
  obtain ⟨hr, H⟩ := H
  refine EV_iadd d_M_pushAll_83 hr ?_
  exact EV_iret d_M_pushAll_84 rfl (nw_int _) (hK _ _ H)
theorem ct_M_pushAll_32 {l : Launch} {K : Int → Ob → Prop} {K' : Option AV → List AC → Prop} (hK : ∀ (r : Int) (m' : Ob), K r m' → K' (some (vI r)) (shM m')) : ∀ (n : Nat) (x2 : Int) (x3 : Int) (x4 : Int) (x5 : Int) (x6 : Int) (m : Ob), M_pushAll_32 n x2 x3 x4 x5 x6 m K → EV l prog_13_method_27_code "PrunedSearchModel" 7 (some .int) 1 32 [(0, vR 0), (2, vI x2), (3, vI x3), (4, vI x4), (5, vI x5), (6, vI x6)] [] (shM m) K' := by
  intro n
  induction n with
  | zero =>
    intro x2 x3 x4 x5 x6 m H
    exact H.elim
  | succ n ih =>
    intro x2 x3 x4 x5 x6 m H
    refine EV_iload 5 d_M_pushAll_32 rfl ?_
    refine EV_if_lt (tgt := 78) d_M_pushAll_34 (by decide) (fun hc => ?_) (fun hc => ?_)
    · have H := H.1 hc
      refine EV_lv (lv' := [(3, vI x3), (4, vI x4)]) [2, 3] rfl ?_
      exact ct_M_pushAll_78 H hK
    · have H := H.2 hc
      refine EV_aload_n 0 d_M_pushAll_37 rfl rfl ?_
      refine EV_get (j := 50) d_M_pushAll_38 shM_0 rfl fI11 (by decide) k_1018 rfl ?_
      refine EV_iload_n 2 d_M_pushAll_41 rfl rfl ?_
      refine EV_iconst d_M_pushAll_42 ⟨by decide, by decide⟩ ?_
      refine EV_iload 5 d_M_pushAll_43 rfl ?_
      obtain ⟨hr, H⟩ := H
      refine EV_imul d_M_pushAll_45 hr ?_
      obtain ⟨hr, H⟩ := H
      refine EV_iadd d_M_pushAll_46 hr ?_
      refine EV_iload 4 d_M_pushAll_47 rfl ?_
      obtain ⟨hi, H⟩ := H
      refine EV_iast d_M_pushAll_49 shM_29 hi shM_29_s ?_
      refine EV_aload_n 0 d_M_pushAll_50 rfl rfl ?_
      refine EV_get (j := 50) d_M_pushAll_51 shM_0 rfl fI11 (by decide) k_1018 rfl ?_
      refine EV_iload_n 2 d_M_pushAll_54 rfl rfl ?_
      refine EV_iconst d_M_pushAll_55 ⟨by decide, by decide⟩ ?_
      refine EV_iload 5 d_M_pushAll_56 rfl ?_
      obtain ⟨hr, H⟩ := H
      refine EV_imul d_M_pushAll_58 hr ?_
      obtain ⟨hr, H⟩ := H
      refine EV_iadd d_M_pushAll_59 hr ?_
      refine EV_iconst d_M_pushAll_60 ⟨by decide, by decide⟩ ?_
      obtain ⟨hr, H⟩ := H
      refine EV_iadd d_M_pushAll_61 hr ?_
      refine EV_iload_n 1 d_M_pushAll_62 rfl rfl ?_
      obtain ⟨hi, H⟩ := H
      refine EV_iast d_M_pushAll_63 shM_29 hi shM_29_s ?_
      refine EV_aload_n 0 d_M_pushAll_64 rfl rfl ?_
      refine EV_iload 4 d_M_pushAll_65 rfl ?_
      refine EV_callV (as := [vI x5]) (st := []) d_M_pushAll_67 k_1288 k_1290 kp_73 k_12 k_1291 shM_0 rfl pd_24 ⟨by decide, by decide, Nat.le_of_ble_eq_true rfl⟩ rfl (ct_M_behind H (fun r_1 H => ?_))
      refine EV_istore (lv' := [(0, vR 0), (2, vI x2), (3, vI x3), (4, vI x4), (5, vI r_1), (6, vI x6)]) [1, 2, 3, 4, 0, 5] d_M_pushAll_70 (by decide) rfl ?_
      obtain ⟨hr, H⟩ := H
      refine EV_iinc (lv' := [(0, vR 0), (2, vI x2), (3, vI x3), (4, vI x4), (5, vI r_1), (6, vI (x6 + (-1)))]) 5 [1, 2, 3, 4, 5, 0] d_M_pushAll_72 rfl (by decide) hr rfl ?_
      refine EV_goto (tgt := 32) d_M_pushAll_75 (by decide) ?_
      exact ih x2 x3 x4 r_1 (x6 + (-1)) (sA (sA m 24 (x3 + (2 * x6)) x5) 24 ((x3 + (2 * x6)) + 1) x2) H
theorem ct_M_pushAll_19 {l : Launch} {K : Int → Ob → Prop} {K' : Option AV → List AC → Prop} {x1 : Int} {x2 : Int} {x3 : Int} {s0 : Int} {m : Ob} (H : M_pushAll_19 x1 x2 x3 s0 m K) (hK : ∀ (r : Int) (m' : Ob), K r m' → K' (some (vI r)) (shM m')) : EV l prog_13_method_27_code "PrunedSearchModel" 7 (some .int) 1 19 [(0, vR 0), (1, vI x1), (2, vI x2), (3, vI x3)] [vI s0] (shM m) K' := by
  refine EV_istore (lv' := [(0, vR 0), (1, vI x1), (2, vI x2), (3, vI x3), (4, vI s0)]) [1, 2, 3, 4, 0] d_M_pushAll_19 (by decide) rfl ?_
  refine EV_iload_n 1 d_M_pushAll_21 rfl rfl ?_
  refine EV_iconst d_M_pushAll_22 ⟨by decide, by decide⟩ ?_
  obtain ⟨hr, H⟩ := H
  refine EV_iadd d_M_pushAll_23 hr ?_
  refine EV_istore (lv' := [(0, vR 0), (1, vI x1), (2, vI x2), (3, vI x3), (4, vI s0), (5, vI (x1 + 1))]) [1, 2, 3, 4, 5, 0] d_M_pushAll_24 (by decide) rfl ?_
  refine EV_iload 4 d_M_pushAll_26 rfl ?_
  refine EV_iconst d_M_pushAll_28 ⟨by decide, by decide⟩ ?_
  obtain ⟨hr, H⟩ := H
  refine EV_isub d_M_pushAll_29 hr ?_
  refine EV_istore (lv' := [(0, vR 0), (1, vI x1), (2, vI x2), (3, vI x3), (4, vI s0), (5, vI (x1 + 1)), (6, vI (s0 - 1))]) [1, 2, 3, 4, 5, 6, 0] d_M_pushAll_30 (by decide) rfl ?_
  refine EV_lv (lv' := [(0, vR 0), (2, vI x2), (3, vI x3), (4, vI s0), (5, vI (x1 + 1)), (6, vI (s0 - 1))]) [0, 2, 3, 4, 5, 6] rfl ?_
  obtain ⟨n, H⟩ := H
  exact ct_M_pushAll_32 hK n x2 x3 s0 (x1 + 1) (s0 - 1) m H
theorem ct_M_pushAll {l : Launch} {m : Ob} {x1 : Int} {x2 : Int} {x3 : Int} {K : Int → Ob → Prop} {K' : Option AV → List AC → Prop} (H : wp_M_pushAll x1 x2 x3 m K) (hK : ∀ (r : Int) (m' : Ob), K r m' → K' (some (vI r)) (shM m')) : MT l ⟨"PrunedSearchModel", "pushAll", "(III)I"⟩ prog_13_method_27_code 7 (some .int) 1 [vR 0, vI x1, vI x2, vI x3] (shM m) K' := by
  unfold wp_M_pushAll at H
  refine MT_of (lv := [(0, vR 0), (1, vI x1), (2, vI x2), (3, vI x3)]) rfl rfl (Nat.le_of_ble_eq_true rfl) rfl ?_
  refine EV_aload_n 0 d_M_pushAll_0 rfl rfl ?_
  refine EV_get (j := 24) d_M_pushAll_1 shM_0 rfl fI11 (by decide) k_992 rfl ?_
  refine EV_iload_n 1 d_M_pushAll_4 rfl rfl ?_
  obtain ⟨hi, H⟩ := H
  refine EV_iald d_M_pushAll_5 shM_14 hi ?_
  refine EV_if_le (tgt := 18) d_M_pushAll_6 (by decide) (fun hc => ?_) (fun hc => ?_)
  · have H := H.1 hc
    refine EV_iconst d_M_pushAll_18 ⟨by decide, by decide⟩ ?_
    exact ct_M_pushAll_19 H hK
  · have H := H.2 hc
    refine EV_aload_n 0 d_M_pushAll_9 rfl rfl ?_
    refine EV_get (j := 24) d_M_pushAll_10 shM_0 rfl fI11 (by decide) k_992 rfl ?_
    refine EV_iload_n 1 d_M_pushAll_13 rfl rfl ?_
    obtain ⟨hi, H⟩ := H
    refine EV_iald d_M_pushAll_14 shM_14 hi ?_
    refine EV_goto (tgt := 19) d_M_pushAll_15 (by decide) ?_
    exact ct_M_pushAll_19 H hK
theorem ct_M_stands_90 {l : Launch} {K : Int → Ob → Prop} {K' : Option AV → List AC → Prop} {L24 : Int → Int → Int → Ob → Prop} {x1 : Int} {x4 : Int} {x5 : Int} {m : Ob} (hL24 : ∀ (x1 : Int) (x4 : Int) (x5 : Int) (m : Ob), L24 x1 x4 x5 m → EV l prog_13_method_29_code "PrunedSearchModel" 6 (some .boolean) 2 24 [(0, vR 0), (1, vI x1), (4, vI x4), (5, vI x5)] [] (shM m) K') (H : M_stands_90 L24 x1 x4 x5 m K) (hK : ∀ (r : Int) (m' : Ob), K r m' → K' (some (vI r)) (shM m')) : EV l prog_13_method_29_code "PrunedSearchModel" 6 (some .boolean) 2 90 [(0, vR 0), (1, vI x1), (4, vI x4), (5, vI x5)] [] (shM m) K' := by
  refine EV_aload_n 0 d_M_stands_90 rfl rfl ?_
  refine EV_aload_n 0 d_M_stands_91 rfl rfl ?_
  refine EV_get (j := 48) d_M_stands_92 shM_0 rfl fI11 (by decide) k_1016 rfl ?_
  refine EV_aload_n 0 d_M_stands_95 rfl rfl ?_
  refine EV_get (j := 49) d_M_stands_96 shM_0 rfl fI11 (by decide) k_1017 rfl ?_
  refine EV_iload 3 d_M_stands_99 rfl ?_
  refine EV_iconst d_M_stands_101 ⟨by decide, by decide⟩ ?_
  obtain ⟨hr, H⟩ := H
  refine EV_isub d_M_stands_102 hr ?_
  refine EV_callV (as := [vI (m.1 19), vI (m.1 20), vI (x5 - 2)]) (st := []) d_M_stands_103 k_1284 k_1286 kp_72 k_12 k_1287 shM_0 rfl pd_25 ⟨by decide, by decide, Nat.le_of_ble_eq_true rfl⟩ rfl (ct_M_pushAll H (fun r_3 m_2 H => ?_))
  refine EV_istore (lv' := [(0, vR 0), (1, vI x1), (4, vI x4), (5, vI r_3)]) [1, 2, 3, 0] d_M_stands_106 (by decide) rfl ?_
  refine EV_goto (tgt := 24) d_M_stands_108 (by decide) ?_
  exact hL24 x1 x4 r_3 m_2 H
theorem ct_M_stands_24 {l : Launch} {K : Int → Ob → Prop} {K' : Option AV → List AC → Prop} (hK : ∀ (r : Int) (m' : Ob), K r m' → K' (some (vI r)) (shM m')) : ∀ (n : Nat) (x1 : Int) (x4 : Int) (x5 : Int) (m : Ob), M_stands_24 n x1 x4 x5 m K → EV l prog_13_method_29_code "PrunedSearchModel" 6 (some .boolean) 2 24 [(0, vR 0), (1, vI x1), (4, vI x4), (5, vI x5)] [] (shM m) K' := by
  intro n
  induction n with
  | zero =>
    intro x1 x4 x5 m H
    exact H.elim
  | succ n ih =>
    intro x1 x4 x5 m H
    refine EV_iload 3 d_M_stands_24 rfl ?_
    refine EV_iload 2 d_M_stands_26 rfl ?_
    refine EV_icmp_le (tgt := 111) d_M_stands_28 (by decide) (fun hc => ?_) (fun hc => ?_)
    · have H := H.1 hc
      refine EV_iconst d_M_stands_111 ⟨by decide, by decide⟩ ?_
      exact EV_iret d_M_stands_112 rfl (nw_bool (by decide)) (hK _ _ H)
    · have H := H.2 hc
      refine EV_aload_n 0 d_M_stands_31 rfl rfl ?_
      refine EV_aload_n 0 d_M_stands_32 rfl rfl ?_
      refine EV_get (j := 50) d_M_stands_33 shM_0 rfl fI11 (by decide) k_1018 rfl ?_
      refine EV_iload 3 d_M_stands_36 rfl ?_
      refine EV_iconst d_M_stands_38 ⟨by decide, by decide⟩ ?_
      obtain ⟨hr, H⟩ := H
      refine EV_isub d_M_stands_39 hr ?_
      obtain ⟨hi, H⟩ := H
      refine EV_iald d_M_stands_40 shM_29 hi ?_
      refine EV_aload_n 0 d_M_stands_41 rfl rfl ?_
      refine EV_get (j := 50) d_M_stands_42 shM_0 rfl fI11 (by decide) k_1018 rfl ?_
      refine EV_iload 3 d_M_stands_45 rfl ?_
      refine EV_iconst d_M_stands_47 ⟨by decide, by decide⟩ ?_
      obtain ⟨hr, H⟩ := H
      refine EV_isub d_M_stands_48 hr ?_
      obtain ⟨hi, H⟩ := H
      refine EV_iald d_M_stands_49 shM_29 hi ?_
      refine EV_callV (as := [vI (m.2.1 24 (x5 - 2)), vI (m.2.1 24 (x5 - 1))]) (st := []) d_M_stands_50 k_1264 k_1266 kp_67 k_12 k_1267 shM_0 rfl pd_23 ⟨by decide, by decide, Nat.le_of_ble_eq_true rfl⟩ rfl (ct_M_follow H (fun m_1 H => ?_))
      refine EV_aload_n 0 d_M_stands_53 rfl rfl ?_
      refine EV_get (j := 24) d_M_stands_54 shM_0 rfl fI11 (by decide) k_992 rfl ?_
      refine EV_aload_n 0 d_M_stands_57 rfl rfl ?_
      refine EV_get (j := 48) d_M_stands_58 shM_0 rfl fI11 (by decide) k_1016 rfl ?_
      obtain ⟨hi, H⟩ := H
      refine EV_iald d_M_stands_61 shM_14 hi ?_
      refine EV_iconst d_M_stands_62 ⟨by decide, by decide⟩ ?_
      refine EV_icmp_ne (tgt := 90) d_M_stands_63 (by decide) (fun hc => ?_) (fun hc => ?_)
      · have H := H.1 hc
        exact ct_M_stands_90 (fun x1 x4 x5 m' H => ih x1 x4 x5 m' H) H hK
      · have H := H.2 hc
        refine EV_bipush d_M_stands_66 (by decide +kernel) ⟨by decide, by decide⟩ ?_
        refine EV_aload_n 0 d_M_stands_68 rfl rfl ?_
        refine EV_get (j := 49) d_M_stands_69 shM_0 rfl fI11 (by decide) k_1017 rfl ?_
        obtain ⟨hr, H⟩ := H
        refine EV_imul d_M_stands_72 hr ?_
        refine EV_aload_n 0 d_M_stands_73 rfl rfl ?_
        refine EV_get (j := 23) d_M_stands_74 shM_0 rfl fI11 (by decide) k_991 rfl ?_
        refine EV_aload_n 0 d_M_stands_77 rfl rfl ?_
        refine EV_get (j := 48) d_M_stands_78 shM_0 rfl fI11 (by decide) k_1016 rfl ?_
        obtain ⟨hi, H⟩ := H
        refine EV_lald d_M_stands_81 shM_13 hi ?_
        obtain ⟨h0, H⟩ := H
        refine EV_l2i d_M_stands_82 h0 ?_
        obtain ⟨hr, H⟩ := H
        refine EV_iadd d_M_stands_83 hr ?_
        refine EV_iload_n 1 d_M_stands_84 rfl rfl ?_
        refine EV_icmp_ne (tgt := 90) d_M_stands_85 (by decide) (fun hc => ?_) (fun hc => ?_)
        · have H := H.1 hc
          exact ct_M_stands_90 (fun x1 x4 x5 m' H => ih x1 x4 x5 m' H) H hK
        · have H := H.2 hc
          refine EV_iconst d_M_stands_88 ⟨by decide, by decide⟩ ?_
          exact EV_iret d_M_stands_89 rfl (nw_bool (by decide)) (hK _ _ H)
theorem ct_M_stands {l : Launch} {m : Ob} {x1 : Int} {x2 : Int} {x3 : Int} {x4 : Int} {K : Int → Ob → Prop} {K' : Option AV → List AC → Prop} (H : wp_M_stands x1 x2 x3 x4 m K) (hK : ∀ (r : Int) (m' : Ob), K r m' → K' (some (vI r)) (shM m')) : MT l ⟨"PrunedSearchModel", "stands", "(IIII)Z"⟩ prog_13_method_29_code 6 (some .boolean) 2 [vR 0, vI x1, vI x2, vI x3, vI x4] (shM m) K' := by
  unfold wp_M_stands at H
  refine MT_of (lv := [(0, vR 0), (1, vI x1), (2, vI x2), (3, vI x3), (4, vI x4)]) rfl rfl (Nat.le_of_ble_eq_true rfl) rfl ?_
  refine EV_aload_n 0 d_M_stands_0 rfl rfl ?_
  refine EV_get (j := 50) d_M_stands_1 shM_0 rfl fI11 (by decide) k_1018 rfl ?_
  refine EV_iload 4 d_M_stands_4 rfl ?_
  refine EV_iload_n 2 d_M_stands_6 rfl rfl ?_
  obtain ⟨hi, H⟩ := H
  refine EV_iast d_M_stands_7 shM_29 hi shM_29_s ?_
  refine EV_aload_n 0 d_M_stands_8 rfl rfl ?_
  refine EV_get (j := 50) d_M_stands_9 shM_0 rfl fI11 (by decide) k_1018 rfl ?_
  refine EV_iload 4 d_M_stands_12 rfl ?_
  refine EV_iconst d_M_stands_14 ⟨by decide, by decide⟩ ?_
  obtain ⟨hr, H⟩ := H
  refine EV_iadd d_M_stands_15 hr ?_
  refine EV_iload_n 3 d_M_stands_16 rfl rfl ?_
  obtain ⟨hi, H⟩ := H
  refine EV_iast d_M_stands_17 shM_29 hi shM_29_s ?_
  refine EV_iload 4 d_M_stands_18 rfl ?_
  refine EV_iconst d_M_stands_20 ⟨by decide, by decide⟩ ?_
  obtain ⟨hr, H⟩ := H
  refine EV_iadd d_M_stands_21 hr ?_
  refine EV_istore (lv' := [(0, vR 0), (1, vI x1), (2, vI x2), (3, vI x3), (4, vI x4), (5, vI (x4 + 2))]) [1, 2, 3, 4, 5, 0] d_M_stands_22 (by decide) rfl ?_
  refine EV_lv (lv' := [(0, vR 0), (1, vI x1), (4, vI x4), (5, vI (x4 + 2))]) [0, 1, 4, 5] rfl ?_
  obtain ⟨n, H⟩ := H
  exact ct_M_stands_24 hK n x1 x4 (x4 + 2) (sA (sA m 24 x4 x2) 24 (x4 + 1) x3) H
theorem ct_M_bind {l : Launch} {m : Ob} {x1 : Int} {x2 : Int} {x3 : Int} {x4 : Int} {K : Int → Ob → Prop} {K' : Option AV → List AC → Prop} (H : wp_M_bind x1 x2 x3 x4 m K) (hK : ∀ (r : Int) (m' : Ob), K r m' → K' (some (vI r)) (shM m')) : MT l ⟨"PrunedSearchModel", "bind", "(IIII)Z"⟩ prog_13_method_30_code 5 (some .boolean) 3 [vR 0, vI x1, vI x2, vI x3, vI x4] (shM m) K' := by
  unfold wp_M_bind at H
  refine MT_of (lv := [(0, vR 0), (1, vI x1), (2, vI x2), (3, vI x3), (4, vI x4)]) rfl rfl (Nat.le_of_ble_eq_true rfl) rfl ?_
  refine EV_aload_n 0 d_M_bind_0 rfl rfl ?_
  refine EV_iload_n 1 d_M_bind_1 rfl rfl ?_
  refine EV_iload_n 2 d_M_bind_2 rfl rfl ?_
  refine EV_iload_n 3 d_M_bind_3 rfl rfl ?_
  refine EV_iload 4 d_M_bind_4 rfl ?_
  refine EV_callV (as := [vI x1, vI x2, vI x3, vI x4]) (st := []) d_M_bind_6 k_1280 k_1282 kp_71 k_12 k_1283 shM_0 rfl pd_26 ⟨by decide, by decide, Nat.le_of_ble_eq_true rfl⟩ rfl (ct_M_stands H (fun r_2 m_1 H => ?_))
  refine EV_if_eq (tgt := 14) d_M_bind_9 (by decide) (fun hc => ?_) (fun hc => ?_)
  · have H := H.1 hc
    refine EV_aload_n 0 d_M_bind_14 rfl rfl ?_
    refine EV_get (j := 46) d_M_bind_15 shM_0 rfl fI11 (by decide) k_1014 rfl ?_
    refine EV_iload_n 1 d_M_bind_18 rfl rfl ?_
    refine EV_iload_n 2 d_M_bind_19 rfl rfl ?_
    obtain ⟨hi, H⟩ := H
    refine EV_iast d_M_bind_20 shM_27 hi shM_27_s ?_
    refine EV_aload_n 0 d_M_bind_21 rfl rfl ?_
    refine EV_get (j := 47) d_M_bind_22 shM_0 rfl fI11 (by decide) k_1015 rfl ?_
    refine EV_iload_n 1 d_M_bind_25 rfl rfl ?_
    refine EV_iload_n 3 d_M_bind_26 rfl rfl ?_
    obtain ⟨hi, H⟩ := H
    refine EV_iast d_M_bind_27 shM_28 hi shM_28_s ?_
    refine EV_iconst d_M_bind_28 ⟨by decide, by decide⟩ ?_
    exact EV_iret d_M_bind_29 rfl (nw_bool (by decide)) (hK _ _ H)
  · have H := H.2 hc
    refine EV_iconst d_M_bind_12 ⟨by decide, by decide⟩ ?_
    exact EV_iret d_M_bind_13 rfl (nw_bool (by decide)) (hK _ _ H)
theorem ct_M_equalize_430 {l : Launch} {K : Int → Ob → Prop} {K' : Option AV → List AC → Prop} {L32 : Int → Ob → Prop} {x5 : Int} {m : Ob} (hL32 : ∀ (x5 : Int) (m : Ob), L32 x5 m → EV l prog_13_method_31_code "PrunedSearchModel" 19 (some .boolean) 4 32 [(0, vR 0), (5, vI x5)] [] (shM m) K') (H : M_equalize_430 L32 x5 m K) (hK : ∀ (r : Int) (m' : Ob), K r m' → K' (some (vI r)) (shM m')) : EV l prog_13_method_31_code "PrunedSearchModel" 19 (some .boolean) 4 430 [(0, vR 0), (5, vI x5)] [] (shM m) K' := by
  refine EV_goto (tgt := 32) d_M_equalize_430 (by decide) ?_
  exact hL32 x5 m H
theorem ct_M_equalize_343 {l : Launch} {K : Int → Ob → Prop} {K' : Option AV → List AC → Prop} {L32 : Int → Ob → Prop} (hL32 : ∀ (x5 : Int) (m : Ob), L32 x5 m → EV l prog_13_method_31_code "PrunedSearchModel" 19 (some .boolean) 4 32 [(0, vR 0), (5, vI x5)] [] (shM m) K') (hK : ∀ (r : Int) (m' : Ob), K r m' → K' (some (vI r)) (shM m')) : ∀ (n : Nat) (x5 : Int) (x6 : Int) (x7 : Int) (x9 : Int) (x15 : Int) (x16 : Int) (x17 : Int) (x18 : Int) (m : Ob), M_equalize_343 L32 n x5 x6 x7 x9 x15 x16 x17 x18 m K → EV l prog_13_method_31_code "PrunedSearchModel" 19 (some .boolean) 4 343 [(0, vR 0), (5, vI x5), (6, vI x6), (7, vI x7), (9, vI x9), (15, vI x15), (16, vI x16), (17, vI x17), (18, vI x18)] [] (shM m) K' := by
  intro n
  induction n with
  | zero =>
    intro x5 x6 x7 x9 x15 x16 x17 x18 m H
    exact H.elim
  | succ n ih =>
    intro x5 x6 x7 x9 x15 x16 x17 x18 m H
    refine EV_iload 8 d_M_equalize_343 rfl ?_
    refine EV_aload_n 0 d_M_equalize_345 rfl rfl ?_
    refine EV_get (j := 24) d_M_equalize_346 shM_0 rfl fI11 (by decide) k_992 rfl ?_
    refine EV_iload 2 d_M_equalize_349 rfl ?_
    obtain ⟨hi, H⟩ := H
    refine EV_iald d_M_equalize_351 shM_14 hi ?_
    refine EV_icmp_ge (tgt := 430) d_M_equalize_352 (by decide) (fun hc => ?_) (fun hc => ?_)
    · have H := H.1 hc
      refine EV_lv (lv' := [(0, vR 0), (5, vI x5)]) [0, 1] rfl ?_
      exact ct_M_equalize_430 hL32 H hK
    · have H := H.2 hc
      refine EV_iload 5 d_M_equalize_355 rfl ?_
      refine EV_if_ne (tgt := 430) d_M_equalize_357 (by decide) (fun hc => ?_) (fun hc => ?_)
      · have H := H.1 hc
        refine EV_lv (lv' := [(0, vR 0), (5, vI x5)]) [0, 1] rfl ?_
        exact ct_M_equalize_430 hL32 H hK
      · have H := H.2 hc
        refine EV_aload_n 0 d_M_equalize_360 rfl rfl ?_
        refine EV_get (j := 50) d_M_equalize_361 shM_0 rfl fI11 (by decide) k_1018 rfl ?_
        refine EV_iload 1 d_M_equalize_364 rfl ?_
        refine EV_iload 6 d_M_equalize_366 rfl ?_
        obtain ⟨hi, H⟩ := H
        refine EV_iast d_M_equalize_368 shM_29 hi shM_29_s ?_
        refine EV_aload_n 0 d_M_equalize_369 rfl rfl ?_
        refine EV_get (j := 50) d_M_equalize_370 shM_0 rfl fI11 (by decide) k_1018 rfl ?_
        refine EV_iload 1 d_M_equalize_373 rfl ?_
        refine EV_iconst d_M_equalize_375 ⟨by decide, by decide⟩ ?_
        obtain ⟨hr, H⟩ := H
        refine EV_iadd d_M_equalize_376 hr ?_
        refine EV_iload 3 d_M_equalize_377 rfl ?_
        obtain ⟨hi, H⟩ := H
        refine EV_iast d_M_equalize_379 shM_29 hi shM_29_s ?_
        refine EV_aload_n 0 d_M_equalize_380 rfl rfl ?_
        refine EV_get (j := 50) d_M_equalize_381 shM_0 rfl fI11 (by decide) k_1018 rfl ?_
        refine EV_iload 1 d_M_equalize_384 rfl ?_
        refine EV_iconst d_M_equalize_386 ⟨by decide, by decide⟩ ?_
        obtain ⟨hr, H⟩ := H
        refine EV_iadd d_M_equalize_387 hr ?_
        refine EV_iload 7 d_M_equalize_388 rfl ?_
        obtain ⟨hi, H⟩ := H
        refine EV_iast d_M_equalize_390 shM_29 hi shM_29_s ?_
        refine EV_aload_n 0 d_M_equalize_391 rfl rfl ?_
        refine EV_get (j := 50) d_M_equalize_392 shM_0 rfl fI11 (by decide) k_1018 rfl ?_
        refine EV_iload 1 d_M_equalize_395 rfl ?_
        refine EV_iconst d_M_equalize_397 ⟨by decide, by decide⟩ ?_
        obtain ⟨hr, H⟩ := H
        refine EV_iadd d_M_equalize_398 hr ?_
        refine EV_iload 4 d_M_equalize_399 rfl ?_
        obtain ⟨hi, H⟩ := H
        refine EV_iast d_M_equalize_401 shM_29 hi shM_29_s ?_
        refine EV_iload 1 d_M_equalize_402 rfl ?_
        refine EV_iconst d_M_equalize_404 ⟨by decide, by decide⟩ ?_
        obtain ⟨hr, H⟩ := H
        refine EV_iadd d_M_equalize_405 hr ?_
        refine EV_istore (lv' := [(0, vR 0), (5, vI (x5 + 4)), (6, vI x6), (7, vI x7), (9, vI x9), (15, vI x15), (16, vI x16), (17, vI x17), (18, vI x18)]) [1, 0, 2, 3, 4, 5, 6, 7, 8] d_M_equalize_406 (by decide) rfl ?_
        refine EV_aload_n 0 d_M_equalize_408 rfl rfl ?_
        refine EV_iload 6 d_M_equalize_409 rfl ?_
        refine EV_callV (as := [vI x16]) (st := []) d_M_equalize_411 k_1288 k_1290 kp_73 k_12 k_1291 shM_0 rfl pd_24 ⟨by decide, by decide, Nat.le_of_ble_eq_true rfl⟩ rfl (ct_M_behind H (fun r_3 H => ?_))
        refine EV_istore (lv' := [(0, vR 0), (5, vI (x5 + 4)), (6, vI x6), (7, vI x7), (9, vI x9), (15, vI x15), (16, vI r_3), (17, vI x17), (18, vI x18)]) [1, 2, 3, 4, 5, 6, 0, 7, 8] d_M_equalize_414 (by decide) rfl ?_
        refine EV_aload_n 0 d_M_equalize_416 rfl rfl ?_
        refine EV_iload 7 d_M_equalize_417 rfl ?_
        refine EV_callV (as := [vI x17]) (st := []) d_M_equalize_419 k_1288 k_1290 kp_73 k_12 k_1291 shM_0 rfl pd_24 ⟨by decide, by decide, Nat.le_of_ble_eq_true rfl⟩ rfl (ct_M_behind H (fun r_4 H => ?_))
        refine EV_istore (lv' := [(0, vR 0), (5, vI (x5 + 4)), (6, vI x6), (7, vI x7), (9, vI x9), (15, vI x15), (16, vI r_3), (17, vI r_4), (18, vI x18)]) [1, 2, 3, 4, 5, 6, 7, 0, 8] d_M_equalize_422 (by decide) rfl ?_
        obtain ⟨hr, H⟩ := H
        refine EV_iinc (lv' := [(0, vR 0), (5, vI (x5 + 4)), (6, vI x6), (7, vI x7), (9, vI x9), (15, vI x15), (16, vI r_3), (17, vI r_4), (18, vI (x18 + 1))]) 8 [1, 2, 3, 4, 5, 6, 7, 8, 0] d_M_equalize_424 rfl (by decide) hr rfl ?_
        refine EV_goto (tgt := 343) d_M_equalize_427 (by decide) ?_
        exact ih (x5 + 4) x6 x7 x9 x15 r_3 r_4 (x18 + 1) (sA (sA (sA (sA m 24 x5 x16) 24 (x5 + 1) x7) 24 (x5 + 2) x17) 24 (x5 + 3) x9) H
theorem ct_M_equalize_328 {l : Launch} {K : Int → Ob → Prop} {K' : Option AV → List AC → Prop} {L32 : Int → Ob → Prop} {x5 : Int} {x6 : Int} {x7 : Int} {x8 : Int} {x9 : Int} {x15 : Int} {m : Ob} (hL32 : ∀ (x5 : Int) (m : Ob), L32 x5 m → EV l prog_13_method_31_code "PrunedSearchModel" 19 (some .boolean) 4 32 [(0, vR 0), (5, vI x5)] [] (shM m) K') (H : M_equalize_328 L32 x5 x6 x7 x8 x9 x15 m K) (hK : ∀ (r : Int) (m' : Ob), K r m' → K' (some (vI r)) (shM m')) : EV l prog_13_method_31_code "PrunedSearchModel" 19 (some .boolean) 4 328 [(0, vR 0), (5, vI x5), (6, vI x6), (7, vI x7), (8, vI x8), (9, vI x9), (15, vI x15)] [] (shM m) K' := by
  refine EV_iload 2 d_M_equalize_328 rfl ?_
  refine EV_iconst d_M_equalize_330 ⟨by decide, by decide⟩ ?_
  obtain ⟨hr, H⟩ := H
  refine EV_iadd d_M_equalize_331 hr ?_
  refine EV_istore (lv' := [(0, vR 0), (5, vI x5), (6, vI x6), (7, vI x7), (8, vI x8), (9, vI x9), (15, vI x15), (16, vI (x6 + 1))]) [1, 2, 3, 4, 5, 6, 7, 0] d_M_equalize_332 (by decide) rfl ?_
  refine EV_iload 4 d_M_equalize_334 rfl ?_
  refine EV_iconst d_M_equalize_336 ⟨by decide, by decide⟩ ?_
  obtain ⟨hr, H⟩ := H
  refine EV_iadd d_M_equalize_337 hr ?_
  refine EV_istore (lv' := [(0, vR 0), (5, vI x5), (6, vI x6), (7, vI x7), (8, vI x8), (9, vI x9), (15, vI x15), (16, vI (x6 + 1)), (17, vI (x8 + 1))]) [1, 2, 3, 4, 5, 6, 7, 8, 0] d_M_equalize_338 (by decide) rfl ?_
  refine EV_iconst d_M_equalize_340 ⟨by decide, by decide⟩ ?_
  refine EV_istore (lv' := [(0, vR 0), (5, vI x5), (6, vI x6), (7, vI x7), (8, vI x8), (9, vI x9), (15, vI x15), (16, vI (x6 + 1)), (17, vI (x8 + 1)), (18, vI 0)]) [1, 2, 3, 4, 5, 6, 7, 8, 9, 0] d_M_equalize_341 (by decide) rfl ?_
  refine EV_lv (lv' := [(0, vR 0), (5, vI x5), (6, vI x6), (7, vI x7), (9, vI x9), (15, vI x15), (16, vI (x6 + 1)), (17, vI (x8 + 1)), (18, vI 0)]) [0, 1, 2, 3, 5, 6, 7, 8, 9] rfl ?_
  obtain ⟨n, H⟩ := H
  exact ct_M_equalize_343 hL32 hK n x5 x6 x7 x9 x15 (x6 + 1) (x8 + 1) 0 m H
theorem ct_M_equalize_286 {l : Launch} {K : Int → Ob → Prop} {K' : Option AV → List AC → Prop} {L32 : Int → Ob → Prop} {x5 : Int} {x6 : Int} {x7 : Int} {x8 : Int} {x9 : Int} {x15 : Int} {m : Ob} (hL32 : ∀ (x5 : Int) (m : Ob), L32 x5 m → EV l prog_13_method_31_code "PrunedSearchModel" 19 (some .boolean) 4 32 [(0, vR 0), (5, vI x5)] [] (shM m) K') (H : M_equalize_286 L32 x5 x6 x7 x8 x9 x15 m K) (hK : ∀ (r : Int) (m' : Ob), K r m' → K' (some (vI r)) (shM m')) : EV l prog_13_method_31_code "PrunedSearchModel" 19 (some .boolean) 4 286 [(0, vR 0), (5, vI x5), (6, vI x6), (7, vI x7), (8, vI x8), (9, vI x9), (15, vI x15)] [] (shM m) K' := by
  refine EV_iload 6 d_M_equalize_286 rfl ?_
  refine EV_if_ne (tgt := 328) d_M_equalize_288 (by decide) (fun hc => ?_) (fun hc => ?_)
  · have H := H.1 hc
    exact ct_M_equalize_328 hL32 H hK
  · have H := H.2 hc
    refine EV_aload_n 0 d_M_equalize_291 rfl rfl ?_
    refine EV_get (j := 23) d_M_equalize_292 shM_0 rfl fI11 (by decide) k_991 rfl ?_
    refine EV_iload 2 d_M_equalize_295 rfl ?_
    obtain ⟨hi, H⟩ := H
    refine EV_lald d_M_equalize_297 shM_13 hi ?_
    refine EV_aload_n 0 d_M_equalize_298 rfl rfl ?_
    refine EV_get (j := 23) d_M_equalize_299 shM_0 rfl fI11 (by decide) k_991 rfl ?_
    refine EV_iload 4 d_M_equalize_302 rfl ?_
    obtain ⟨hi, H⟩ := H
    refine EV_lald d_M_equalize_304 shM_13 hi ?_
    refine EV_lcmp_ne (tgt := 326) d_M_equalize_305 d_M_equalize_306 (by decide) (fun hc => ?_) (fun hc => ?_)
    · have H := H.1 hc
      refine EV_iconst d_M_equalize_326 ⟨by decide, by decide⟩ ?_
      exact EV_iret d_M_equalize_327 rfl (nw_bool (by decide)) (hK _ _ H)
    · have H := H.2 hc
      refine EV_aload_n 0 d_M_equalize_309 rfl rfl ?_
      refine EV_get (j := 24) d_M_equalize_310 shM_0 rfl fI11 (by decide) k_992 rfl ?_
      refine EV_iload 2 d_M_equalize_313 rfl ?_
      obtain ⟨hi, H⟩ := H
      refine EV_iald d_M_equalize_315 shM_14 hi ?_
      refine EV_aload_n 0 d_M_equalize_316 rfl rfl ?_
      refine EV_get (j := 24) d_M_equalize_317 shM_0 rfl fI11 (by decide) k_992 rfl ?_
      refine EV_iload 4 d_M_equalize_320 rfl ?_
      obtain ⟨hi, H⟩ := H
      refine EV_iald d_M_equalize_322 shM_14 hi ?_
      refine EV_icmp_eq (tgt := 328) d_M_equalize_323 (by decide) (fun hc => ?_) (fun hc => ?_)
      · have H := H.1 hc
        exact ct_M_equalize_328 hL32 H hK
      · have H := H.2 hc
        refine EV_iconst d_M_equalize_326 ⟨by decide, by decide⟩ ?_
        exact EV_iret d_M_equalize_327 rfl (nw_bool (by decide)) (hK _ _ H)
theorem ct_M_equalize_234 {l : Launch} {K : Int → Ob → Prop} {K' : Option AV → List AC → Prop} {L32 : Int → Ob → Prop} {x5 : Int} {x6 : Int} {x7 : Int} {x8 : Int} {x9 : Int} {x10 : Int} {x12 : Int} {x13 : Int} {x14 : Int} {s0 : Int} {m : Ob} (hL32 : ∀ (x5 : Int) (m : Ob), L32 x5 m → EV l prog_13_method_31_code "PrunedSearchModel" 19 (some .boolean) 4 32 [(0, vR 0), (5, vI x5)] [] (shM m) K') (H : M_equalize_234 L32 x5 x6 x7 x8 x9 x10 x12 x13 x14 s0 m K) (hK : ∀ (r : Int) (m' : Ob), K r m' → K' (some (vI r)) (shM m')) : EV l prog_13_method_31_code "PrunedSearchModel" 19 (some .boolean) 4 234 [(0, vR 0), (5, vI x5), (6, vI x6), (7, vI x7), (8, vI x8), (9, vI x9), (10, vI x10), (12, vI x12), (13, vI x13), (14, vI x14)] [vI s0] (shM m) K' := by
  refine EV_istore (lv' := [(0, vR 0), (5, vI x5), (6, vI x6), (7, vI x7), (8, vI x8), (9, vI x9), (10, vI x10), (12, vI x12), (13, vI x13), (14, vI x14), (15, vI s0)]) [1, 2, 3, 4, 5, 6, 7, 8, 9, 10, 0] d_M_equalize_234 (by decide) rfl ?_
  refine EV_iload 10 d_M_equalize_236 rfl ?_
  refine EV_if_eq (tgt := 286) d_M_equalize_238 (by decide) (fun hc => ?_) (fun hc => ?_)
  · have H := H.1 hc
    refine EV_lv (lv' := [(0, vR 0), (5, vI x5), (6, vI x6), (7, vI x7), (8, vI x8), (9, vI x9), (15, vI s0)]) [0, 1, 2, 3, 4, 5, 10] rfl ?_
    exact ct_M_equalize_286 hL32 H hK
  · have H := H.2 hc
    refine EV_iload 9 d_M_equalize_241 rfl ?_
    refine EV_if_ne (tgt := 286) d_M_equalize_243 (by decide) (fun hc => ?_) (fun hc => ?_)
    · have H := H.1 hc
      refine EV_lv (lv' := [(0, vR 0), (5, vI x5), (6, vI x6), (7, vI x7), (8, vI x8), (9, vI x9), (15, vI s0)]) [0, 1, 2, 3, 4, 5, 10] rfl ?_
      exact ct_M_equalize_286 hL32 H hK
    · have H := H.2 hc
      refine EV_iload 6 d_M_equalize_246 rfl ?_
      refine EV_if_eq (tgt := 269) d_M_equalize_248 (by decide) (fun hc => ?_) (fun hc => ?_)
      · have H := H.1 hc
        refine EV_aload_n 0 d_M_equalize_269 rfl rfl ?_
        refine EV_iload 8 d_M_equalize_270 rfl ?_
        refine EV_iload 2 d_M_equalize_272 rfl ?_
        refine EV_iload 3 d_M_equalize_274 rfl ?_
        refine EV_iload 1 d_M_equalize_276 rfl ?_
        refine EV_callV (as := [vI x13, vI x6, vI x7, vI x5]) (st := []) d_M_equalize_278 k_1276 k_1278 kp_70 k_12 k_1279 shM_0 rfl pd_27 ⟨by decide, by decide, Nat.le_of_ble_eq_true rfl⟩ rfl (ct_M_bind H (fun r_6 m_5 H => ?_))
        refine EV_if_ne (tgt := 286) d_M_equalize_281 (by decide) (fun hc => ?_) (fun hc => ?_)
        · have H := H.1 hc
          refine EV_lv (lv' := [(0, vR 0), (5, vI x5), (6, vI x6), (7, vI x7), (8, vI x8), (9, vI x9), (15, vI s0)]) [0, 1, 2, 3, 4, 5, 10] rfl ?_
          exact ct_M_equalize_286 hL32 H hK
        · have H := H.2 hc
          refine EV_iconst d_M_equalize_284 ⟨by decide, by decide⟩ ?_
          exact EV_iret d_M_equalize_285 rfl (nw_bool (by decide)) (hK _ _ H)
      · have H := H.2 hc
        refine EV_aload_n 0 d_M_equalize_251 rfl rfl ?_
        refine EV_iload 7 d_M_equalize_252 rfl ?_
        refine EV_iload 4 d_M_equalize_254 rfl ?_
        refine EV_iload 5 d_M_equalize_256 rfl ?_
        refine EV_iload 1 d_M_equalize_258 rfl ?_
        refine EV_callV (as := [vI x12, vI x8, vI x9, vI x5]) (st := []) d_M_equalize_260 k_1276 k_1278 kp_70 k_12 k_1279 shM_0 rfl pd_27 ⟨by decide, by decide, Nat.le_of_ble_eq_true rfl⟩ rfl (ct_M_bind H (fun r_8 m_7 H => ?_))
        refine EV_if_eq (tgt := 284) d_M_equalize_263 (by decide) (fun hc => ?_) (fun hc => ?_)
        · have H := H.1 hc
          refine EV_iconst d_M_equalize_284 ⟨by decide, by decide⟩ ?_
          exact EV_iret d_M_equalize_285 rfl (nw_bool (by decide)) (hK _ _ H)
        · have H := H.2 hc
          refine EV_goto (tgt := 286) d_M_equalize_266 (by decide) ?_
          refine EV_lv (lv' := [(0, vR 0), (5, vI x5), (6, vI x6), (7, vI x7), (8, vI x8), (9, vI x9), (15, vI s0)]) [0, 1, 2, 3, 4, 5, 10] rfl ?_
          exact ct_M_equalize_286 hL32 H hK
theorem ct_M_equalize_229 {l : Launch} {K : Int → Ob → Prop} {K' : Option AV → List AC → Prop} {L32 : Int → Ob → Prop} {x5 : Int} {x6 : Int} {x7 : Int} {x8 : Int} {x9 : Int} {x10 : Int} {x12 : Int} {x13 : Int} {x14 : Int} {m : Ob} (hL32 : ∀ (x5 : Int) (m : Ob), L32 x5 m → EV l prog_13_method_31_code "PrunedSearchModel" 19 (some .boolean) 4 32 [(0, vR 0), (5, vI x5)] [] (shM m) K') (H : M_equalize_229 L32 x5 x6 x7 x8 x9 x10 x12 x13 x14 m K) (hK : ∀ (r : Int) (m' : Ob), K r m' → K' (some (vI r)) (shM m')) : EV l prog_13_method_31_code "PrunedSearchModel" 19 (some .boolean) 4 229 [(0, vR 0), (5, vI x5), (6, vI x6), (7, vI x7), (8, vI x8), (9, vI x9), (10, vI x10), (12, vI x12), (13, vI x13), (14, vI x14)] [] (shM m) K' := by
  refine EV_iconst d_M_equalize_229 ⟨by decide, by decide⟩ ?_
  refine EV_goto (tgt := 234) d_M_equalize_230 (by decide) ?_
  exact ct_M_equalize_234 hL32 H hK
theorem ct_M_equalize_217 {l : Launch} {K : Int → Ob → Prop} {K' : Option AV → List AC → Prop} {L32 : Int → Ob → Prop} {x5 : Int} {x6 : Int} {x7 : Int} {x8 : Int} {x9 : Int} {x10 : Int} {x11 : Int} {x12 : Int} {x13 : Int} {s0 : Int} {m : Ob} (hL32 : ∀ (x5 : Int) (m : Ob), L32 x5 m → EV l prog_13_method_31_code "PrunedSearchModel" 19 (some .boolean) 4 32 [(0, vR 0), (5, vI x5)] [] (shM m) K') (H : M_equalize_217 L32 x5 x6 x7 x8 x9 x10 x11 x12 x13 s0 m K) (hK : ∀ (r : Int) (m' : Ob), K r m' → K' (some (vI r)) (shM m')) : EV l prog_13_method_31_code "PrunedSearchModel" 19 (some .boolean) 4 217 [(0, vR 0), (5, vI x5), (6, vI x6), (7, vI x7), (8, vI x8), (9, vI x9), (10, vI x10), (11, vI x11), (12, vI x12), (13, vI x13)] [vI s0] (shM m) K' := by
  refine EV_istore (lv' := [(0, vR 0), (5, vI x5), (6, vI x6), (7, vI x7), (8, vI x8), (9, vI x9), (10, vI x10), (11, vI x11), (12, vI x12), (13, vI x13), (14, vI s0)]) [1, 2, 3, 4, 5, 6, 7, 8, 9, 10, 0] d_M_equalize_217 (by decide) rfl ?_
  refine EV_iload 6 d_M_equalize_219 rfl ?_
  refine EV_if_ne (tgt := 229) d_M_equalize_221 (by decide) (fun hc => ?_) (fun hc => ?_)
  · have H := H.1 hc
    refine EV_lv (lv' := [(0, vR 0), (5, vI x5), (6, vI x6), (7, vI x7), (8, vI x8), (9, vI x9), (10, vI x10), (12, vI x12), (13, vI x13), (14, vI s0)]) [0, 1, 2, 3, 4, 5, 6, 8, 9, 10] rfl ?_
    exact ct_M_equalize_229 hL32 H hK
  · have H := H.2 hc
    refine EV_iload 7 d_M_equalize_224 rfl ?_
    refine EV_if_eq (tgt := 233) d_M_equalize_226 (by decide) (fun hc => ?_) (fun hc => ?_)
    · have H := H.1 hc
      refine EV_iconst d_M_equalize_233 ⟨by decide, by decide⟩ ?_
      refine EV_lv (lv' := [(0, vR 0), (5, vI x5), (6, vI x6), (7, vI x7), (8, vI x8), (9, vI x9), (10, vI x10), (12, vI x12), (13, vI x13), (14, vI s0)]) [0, 1, 2, 3, 4, 5, 6, 8, 9, 10] rfl ?_
      exact ct_M_equalize_234 hL32 H hK
    · have H := H.2 hc
      refine EV_lv (lv' := [(0, vR 0), (5, vI x5), (6, vI x6), (7, vI x7), (8, vI x8), (9, vI x9), (10, vI x10), (12, vI x12), (13, vI x13), (14, vI s0)]) [0, 1, 2, 3, 4, 5, 6, 8, 9, 10] rfl ?_
      exact ct_M_equalize_229 hL32 H hK
theorem ct_M_equalize_216 {l : Launch} {K : Int → Ob → Prop} {K' : Option AV → List AC → Prop} {L32 : Int → Ob → Prop} {x5 : Int} {x6 : Int} {x7 : Int} {x8 : Int} {x9 : Int} {x10 : Int} {x11 : Int} {x12 : Int} {x13 : Int} {m : Ob} (hL32 : ∀ (x5 : Int) (m : Ob), L32 x5 m → EV l prog_13_method_31_code "PrunedSearchModel" 19 (some .boolean) 4 32 [(0, vR 0), (5, vI x5)] [] (shM m) K') (H : M_equalize_216 L32 x5 x6 x7 x8 x9 x10 x11 x12 x13 m K) (hK : ∀ (r : Int) (m' : Ob), K r m' → K' (some (vI r)) (shM m')) : EV l prog_13_method_31_code "PrunedSearchModel" 19 (some .boolean) 4 216 [(0, vR 0), (5, vI x5), (6, vI x6), (7, vI x7), (8, vI x8), (9, vI x9), (10, vI x10), (11, vI x11), (12, vI x12), (13, vI x13)] [] (shM m) K' := by
  refine EV_iconst d_M_equalize_216 ⟨by decide, by decide⟩ ?_
  exact ct_M_equalize_217 hL32 H hK
theorem ct_M_equalize_193 {l : Launch} {K : Int → Ob → Prop} {K' : Option AV → List AC → Prop} {L32 : Int → Ob → Prop} {x5 : Int} {x6 : Int} {x7 : Int} {x8 : Int} {x9 : Int} {x10 : Int} {x11 : Int} {x12 : Int} {s0 : Int} {m : Ob} (hL32 : ∀ (x5 : Int) (m : Ob), L32 x5 m → EV l prog_13_method_31_code "PrunedSearchModel" 19 (some .boolean) 4 32 [(0, vR 0), (5, vI x5)] [] (shM m) K') (H : M_equalize_193 L32 x5 x6 x7 x8 x9 x10 x11 x12 s0 m K) (hK : ∀ (r : Int) (m' : Ob), K r m' → K' (some (vI r)) (shM m')) : EV l prog_13_method_31_code "PrunedSearchModel" 19 (some .boolean) 4 193 [(0, vR 0), (5, vI x5), (6, vI x6), (7, vI x7), (8, vI x8), (9, vI x9), (10, vI x10), (11, vI x11), (12, vI x12)] [vI s0] (shM m) K' := by
  refine EV_istore (lv' := [(0, vR 0), (5, vI x5), (6, vI x6), (7, vI x7), (8, vI x8), (9, vI x9), (10, vI x10), (11, vI x11), (12, vI x12), (13, vI s0)]) [1, 2, 3, 4, 5, 6, 7, 8, 9, 0] d_M_equalize_193 (by decide) rfl ?_
  refine EV_iload 6 d_M_equalize_195 rfl ?_
  refine EV_if_eq (tgt := 216) d_M_equalize_197 (by decide) (fun hc => ?_) (fun hc => ?_)
  · have H := H.1 hc
    exact ct_M_equalize_216 hL32 H hK
  · have H := H.2 hc
    refine EV_iload 7 d_M_equalize_200 rfl ?_
    refine EV_if_eq (tgt := 216) d_M_equalize_202 (by decide) (fun hc => ?_) (fun hc => ?_)
    · have H := H.1 hc
      exact ct_M_equalize_216 hL32 H hK
    · have H := H.2 hc
      refine EV_iload 8 d_M_equalize_205 rfl ?_
      refine EV_iload 9 d_M_equalize_207 rfl ?_
      refine EV_icmp_ne (tgt := 216) d_M_equalize_209 (by decide) (fun hc => ?_) (fun hc => ?_)
      · have H := H.1 hc
        exact ct_M_equalize_216 hL32 H hK
      · have H := H.2 hc
        refine EV_iconst d_M_equalize_212 ⟨by decide, by decide⟩ ?_
        refine EV_goto (tgt := 217) d_M_equalize_213 (by decide) ?_
        exact ct_M_equalize_217 hL32 H hK
theorem ct_M_equalize_168 {l : Launch} {K : Int → Ob → Prop} {K' : Option AV → List AC → Prop} {L32 : Int → Ob → Prop} {x5 : Int} {x6 : Int} {x7 : Int} {x8 : Int} {x9 : Int} {x10 : Int} {x11 : Int} {s0 : Int} {m : Ob} (hL32 : ∀ (x5 : Int) (m : Ob), L32 x5 m → EV l prog_13_method_31_code "PrunedSearchModel" 19 (some .boolean) 4 32 [(0, vR 0), (5, vI x5)] [] (shM m) K') (H : M_equalize_168 L32 x5 x6 x7 x8 x9 x10 x11 s0 m K) (hK : ∀ (r : Int) (m' : Ob), K r m' → K' (some (vI r)) (shM m')) : EV l prog_13_method_31_code "PrunedSearchModel" 19 (some .boolean) 4 168 [(0, vR 0), (5, vI x5), (6, vI x6), (7, vI x7), (8, vI x8), (9, vI x9), (10, vI x10), (11, vI x11)] [vI s0] (shM m) K' := by
  refine EV_istore (lv' := [(0, vR 0), (5, vI x5), (6, vI x6), (7, vI x7), (8, vI x8), (9, vI x9), (10, vI x10), (11, vI x11), (12, vI s0)]) [1, 2, 3, 4, 5, 6, 7, 8, 0] d_M_equalize_168 (by decide) rfl ?_
  refine EV_iload 7 d_M_equalize_170 rfl ?_
  refine EV_if_eq (tgt := 192) d_M_equalize_172 (by decide) (fun hc => ?_) (fun hc => ?_)
  · have H := H.1 hc
    refine EV_iconst d_M_equalize_192 ⟨by decide, by decide⟩ ?_
    exact ct_M_equalize_193 hL32 H hK
  · have H := H.2 hc
    refine EV_bipush d_M_equalize_175 (by decide +kernel) ⟨by decide, by decide⟩ ?_
    refine EV_iload 5 d_M_equalize_177 rfl ?_
    obtain ⟨hr, H⟩ := H
    refine EV_imul d_M_equalize_179 hr ?_
    refine EV_aload_n 0 d_M_equalize_180 rfl rfl ?_
    refine EV_get (j := 23) d_M_equalize_181 shM_0 rfl fI11 (by decide) k_991 rfl ?_
    refine EV_iload 4 d_M_equalize_184 rfl ?_
    obtain ⟨hi, H⟩ := H
    refine EV_lald d_M_equalize_186 shM_13 hi ?_
    obtain ⟨h0, H⟩ := H
    refine EV_l2i d_M_equalize_187 h0 ?_
    obtain ⟨hr, H⟩ := H
    refine EV_iadd d_M_equalize_188 hr ?_
    refine EV_goto (tgt := 193) d_M_equalize_189 (by decide) ?_
    exact ct_M_equalize_193 hL32 H hK
theorem ct_M_equalize_143 {l : Launch} {K : Int → Ob → Prop} {K' : Option AV → List AC → Prop} {L32 : Int → Ob → Prop} {x5 : Int} {x6 : Int} {x7 : Int} {x8 : Int} {x9 : Int} {x10 : Int} {s0 : Int} {m : Ob} (hL32 : ∀ (x5 : Int) (m : Ob), L32 x5 m → EV l prog_13_method_31_code "PrunedSearchModel" 19 (some .boolean) 4 32 [(0, vR 0), (5, vI x5)] [] (shM m) K') (H : M_equalize_143 L32 x5 x6 x7 x8 x9 x10 s0 m K) (hK : ∀ (r : Int) (m' : Ob), K r m' → K' (some (vI r)) (shM m')) : EV l prog_13_method_31_code "PrunedSearchModel" 19 (some .boolean) 4 143 [(0, vR 0), (5, vI x5), (6, vI x6), (7, vI x7), (8, vI x8), (9, vI x9), (10, vI x10)] [vI s0] (shM m) K' := by
  refine EV_istore (lv' := [(0, vR 0), (5, vI x5), (6, vI x6), (7, vI x7), (8, vI x8), (9, vI x9), (10, vI x10), (11, vI s0)]) [1, 2, 3, 4, 5, 6, 7, 0] d_M_equalize_143 (by decide) rfl ?_
  refine EV_iload 6 d_M_equalize_145 rfl ?_
  refine EV_if_eq (tgt := 167) d_M_equalize_147 (by decide) (fun hc => ?_) (fun hc => ?_)
  · have H := H.1 hc
    refine EV_iconst d_M_equalize_167 ⟨by decide, by decide⟩ ?_
    exact ct_M_equalize_168 hL32 H hK
  · have H := H.2 hc
    refine EV_bipush d_M_equalize_150 (by decide +kernel) ⟨by decide, by decide⟩ ?_
    refine EV_iload 3 d_M_equalize_152 rfl ?_
    obtain ⟨hr, H⟩ := H
    refine EV_imul d_M_equalize_154 hr ?_
    refine EV_aload_n 0 d_M_equalize_155 rfl rfl ?_
    refine EV_get (j := 23) d_M_equalize_156 shM_0 rfl fI11 (by decide) k_991 rfl ?_
    refine EV_iload 2 d_M_equalize_159 rfl ?_
    obtain ⟨hi, H⟩ := H
    refine EV_lald d_M_equalize_161 shM_13 hi ?_
    obtain ⟨h0, H⟩ := H
    refine EV_l2i d_M_equalize_162 h0 ?_
    obtain ⟨hr, H⟩ := H
    refine EV_iadd d_M_equalize_163 hr ?_
    refine EV_goto (tgt := 168) d_M_equalize_164 (by decide) ?_
    exact ct_M_equalize_168 hL32 H hK
theorem ct_M_equalize_125 {l : Launch} {K : Int → Ob → Prop} {K' : Option AV → List AC → Prop} {L32 : Int → Ob → Prop} {x5 : Int} {x6 : Int} {x7 : Int} {x8 : Int} {x9 : Int} {s0 : Int} {m : Ob} (hL32 : ∀ (x5 : Int) (m : Ob), L32 x5 m → EV l prog_13_method_31_code "PrunedSearchModel" 19 (some .boolean) 4 32 [(0, vR 0), (5, vI x5)] [] (shM m) K') (H : M_equalize_125 L32 x5 x6 x7 x8 x9 s0 m K) (hK : ∀ (r : Int) (m' : Ob), K r m' → K' (some (vI r)) (shM m')) : EV l prog_13_method_31_code "PrunedSearchModel" 19 (some .boolean) 4 125 [(0, vR 0), (5, vI x5), (6, vI x6), (7, vI x7), (8, vI x8), (9, vI x9)] [vI s0] (shM m) K' := by
  refine EV_istore (lv' := [(0, vR 0), (5, vI x5), (6, vI x6), (7, vI x7), (8, vI x8), (9, vI x9), (10, vI s0)]) [1, 2, 3, 4, 5, 6, 0] d_M_equalize_125 (by decide) rfl ?_
  refine EV_aload_n 0 d_M_equalize_127 rfl rfl ?_
  refine EV_get (j := 24) d_M_equalize_128 shM_0 rfl fI11 (by decide) k_992 rfl ?_
  refine EV_iload 4 d_M_equalize_131 rfl ?_
  obtain ⟨hi, H⟩ := H
  refine EV_iald d_M_equalize_133 shM_14 hi ?_
  refine EV_iconst d_M_equalize_134 ⟨by decide, by decide⟩ ?_
  refine EV_icmp_ne (tgt := 142) d_M_equalize_135 (by decide) (fun hc => ?_) (fun hc => ?_)
  · have H := H.1 hc
    refine EV_iconst d_M_equalize_142 ⟨by decide, by decide⟩ ?_
    exact ct_M_equalize_143 hL32 H hK
  · have H := H.2 hc
    refine EV_iconst d_M_equalize_138 ⟨by decide, by decide⟩ ?_
    refine EV_goto (tgt := 143) d_M_equalize_139 (by decide) ?_
    exact ct_M_equalize_143 hL32 H hK
theorem ct_M_equalize_32 {l : Launch} {K : Int → Ob → Prop} {K' : Option AV → List AC → Prop} (hK : ∀ (r : Int) (m' : Ob), K r m' → K' (some (vI r)) (shM m')) : ∀ (n : Nat) (x5 : Int) (m : Ob), M_equalize_32 n x5 m K → EV l prog_13_method_31_code "PrunedSearchModel" 19 (some .boolean) 4 32 [(0, vR 0), (5, vI x5)] [] (shM m) K' := by
  intro n
  induction n with
  | zero =>
    intro x5 m H
    exact H.elim
  | succ n ih =>
    intro x5 m H
    refine EV_iload 1 d_M_equalize_32 rfl ?_
    refine EV_if_le (tgt := 433) d_M_equalize_34 (by decide) (fun hc => ?_) (fun hc => ?_)
    · have H := H.1 hc
      refine EV_iconst d_M_equalize_433 ⟨by decide, by decide⟩ ?_
      exact EV_iret d_M_equalize_434 rfl (nw_bool (by decide)) (hK _ _ H)
    · have H := H.2 hc
      refine EV_iload 1 d_M_equalize_37 rfl ?_
      refine EV_iconst d_M_equalize_39 ⟨by decide, by decide⟩ ?_
      obtain ⟨hr, H⟩ := H
      refine EV_isub d_M_equalize_40 hr ?_
      refine EV_istore (lv' := [(0, vR 0), (5, vI (x5 - 4))]) [1, 0] d_M_equalize_41 (by decide) rfl ?_
      refine EV_aload_n 0 d_M_equalize_43 rfl rfl ?_
      refine EV_aload_n 0 d_M_equalize_44 rfl rfl ?_
      refine EV_get (j := 50) d_M_equalize_45 shM_0 rfl fI11 (by decide) k_1018 rfl ?_
      refine EV_iload 1 d_M_equalize_48 rfl ?_
      obtain ⟨hi, H⟩ := H
      refine EV_iald d_M_equalize_50 shM_29 hi ?_
      refine EV_aload_n 0 d_M_equalize_51 rfl rfl ?_
      refine EV_get (j := 50) d_M_equalize_52 shM_0 rfl fI11 (by decide) k_1018 rfl ?_
      refine EV_iload 1 d_M_equalize_55 rfl ?_
      refine EV_iconst d_M_equalize_57 ⟨by decide, by decide⟩ ?_
      obtain ⟨hr, H⟩ := H
      refine EV_iadd d_M_equalize_58 hr ?_
      obtain ⟨hi, H⟩ := H
      refine EV_iald d_M_equalize_59 shM_29 hi ?_
      refine EV_callV (as := [vI (m.2.1 24 (x5 - 4)), vI (m.2.1 24 ((x5 - 4) + 1))]) (st := []) d_M_equalize_60 k_1264 k_1266 kp_67 k_12 k_1267 shM_0 rfl pd_23 ⟨by decide, by decide, Nat.le_of_ble_eq_true rfl⟩ rfl (ct_M_follow H (fun m_1 H => ?_))
      refine EV_aload_n 0 d_M_equalize_63 rfl rfl ?_
      refine EV_get (j := 48) d_M_equalize_64 shM_0 rfl fI11 (by decide) k_1016 rfl ?_
      refine EV_istore (lv' := [(0, vR 0), (5, vI (x5 - 4)), (6, vI (m_1.1 19))]) [1, 2, 0] d_M_equalize_67 (by decide) rfl ?_
      refine EV_aload_n 0 d_M_equalize_69 rfl rfl ?_
      refine EV_get (j := 49) d_M_equalize_70 shM_0 rfl fI11 (by decide) k_1017 rfl ?_
      refine EV_istore (lv' := [(0, vR 0), (5, vI (x5 - 4)), (6, vI (m_1.1 19)), (7, vI (m_1.1 20))]) [1, 2, 3, 0] d_M_equalize_73 (by decide) rfl ?_
      refine EV_aload_n 0 d_M_equalize_75 rfl rfl ?_
      refine EV_aload_n 0 d_M_equalize_76 rfl rfl ?_
      refine EV_get (j := 50) d_M_equalize_77 shM_0 rfl fI11 (by decide) k_1018 rfl ?_
      refine EV_iload 1 d_M_equalize_80 rfl ?_
      refine EV_iconst d_M_equalize_82 ⟨by decide, by decide⟩ ?_
      obtain ⟨hr, H⟩ := H
      refine EV_iadd d_M_equalize_83 hr ?_
      obtain ⟨hi, H⟩ := H
      refine EV_iald d_M_equalize_84 shM_29 hi ?_
      refine EV_aload_n 0 d_M_equalize_85 rfl rfl ?_
      refine EV_get (j := 50) d_M_equalize_86 shM_0 rfl fI11 (by decide) k_1018 rfl ?_
      refine EV_iload 1 d_M_equalize_89 rfl ?_
      refine EV_iconst d_M_equalize_91 ⟨by decide, by decide⟩ ?_
      obtain ⟨hr, H⟩ := H
      refine EV_iadd d_M_equalize_92 hr ?_
      obtain ⟨hi, H⟩ := H
      refine EV_iald d_M_equalize_93 shM_29 hi ?_
      refine EV_callV (as := [vI (m_1.2.1 24 ((x5 - 4) + 2)), vI (m_1.2.1 24 ((x5 - 4) + 3))]) (st := []) d_M_equalize_94 k_1264 k_1266 kp_67 k_12 k_1267 shM_0 rfl pd_23 ⟨by decide, by decide, Nat.le_of_ble_eq_true rfl⟩ rfl (ct_M_follow H (fun m_2 H => ?_))
      refine EV_aload_n 0 d_M_equalize_97 rfl rfl ?_
      refine EV_get (j := 48) d_M_equalize_98 shM_0 rfl fI11 (by decide) k_1016 rfl ?_
      refine EV_istore (lv' := [(0, vR 0), (5, vI (x5 - 4)), (6, vI (m_1.1 19)), (7, vI (m_1.1 20)), (8, vI (m_2.1 19))]) [1, 2, 3, 4, 0] d_M_equalize_101 (by decide) rfl ?_
      refine EV_aload_n 0 d_M_equalize_103 rfl rfl ?_
      refine EV_get (j := 49) d_M_equalize_104 shM_0 rfl fI11 (by decide) k_1017 rfl ?_
      refine EV_istore (lv' := [(0, vR 0), (5, vI (x5 - 4)), (6, vI (m_1.1 19)), (7, vI (m_1.1 20)), (8, vI (m_2.1 19)), (9, vI (m_2.1 20))]) [1, 2, 3, 4, 5, 0] d_M_equalize_107 (by decide) rfl ?_
      refine EV_aload_n 0 d_M_equalize_109 rfl rfl ?_
      refine EV_get (j := 24) d_M_equalize_110 shM_0 rfl fI11 (by decide) k_992 rfl ?_
      refine EV_iload 2 d_M_equalize_113 rfl ?_
      obtain ⟨hi, H⟩ := H
      refine EV_iald d_M_equalize_115 shM_14 hi ?_
      refine EV_iconst d_M_equalize_116 ⟨by decide, by decide⟩ ?_
      refine EV_icmp_ne (tgt := 124) d_M_equalize_117 (by decide) (fun hc => ?_) (fun hc => ?_)
      · have H := H.1 hc
        refine EV_iconst d_M_equalize_124 ⟨by decide, by decide⟩ ?_
        exact ct_M_equalize_125 (fun x5 m' H => ih x5 m' H) H hK
      · have H := H.2 hc
        refine EV_iconst d_M_equalize_120 ⟨by decide, by decide⟩ ?_
        refine EV_goto (tgt := 125) d_M_equalize_121 (by decide) ?_
        exact ct_M_equalize_125 (fun x5 m' H => ih x5 m' H) H hK
