/-! printed by wip/gen/drive.py -/
theorem d_M_isSmall_0 : decode prog_13_method_2_code 0 = .ok (.iload_n 0, 1) := by decide +kernel
theorem d_M_isSmall_1 : decode prog_13_method_2_code 1 = .ok (.bipush 97, 2) := by decide +kernel
theorem d_M_isSmall_3 : decode prog_13_method_2_code 3 = .ok (.if_icmp .lt 9, 3) := by decide +kernel
theorem d_M_isSmall_6 : decode prog_13_method_2_code 6 = .ok (.iload_n 0, 1) := by decide +kernel
theorem d_M_isSmall_7 : decode prog_13_method_2_code 7 = .ok (.bipush 122, 2) := by decide +kernel
theorem d_M_isSmall_9 : decode prog_13_method_2_code 9 = .ok (.if_icmp .le 15, 3) := by decide +kernel
theorem d_M_isSmall_12 : decode prog_13_method_2_code 12 = .ok (.iload_n 0, 1) := by decide +kernel
theorem d_M_isSmall_13 : decode prog_13_method_2_code 13 = .ok (.bipush 48, 2) := by decide +kernel
theorem d_M_isSmall_15 : decode prog_13_method_2_code 15 = .ok (.if_icmp .lt 13, 3) := by decide +kernel
theorem d_M_isSmall_18 : decode prog_13_method_2_code 18 = .ok (.iload_n 0, 1) := by decide +kernel
theorem d_M_isSmall_19 : decode prog_13_method_2_code 19 = .ok (.bipush 57, 2) := by decide +kernel
theorem d_M_isSmall_21 : decode prog_13_method_2_code 21 = .ok (.if_icmp .gt 7, 3) := by decide +kernel
theorem d_M_isSmall_24 : decode prog_13_method_2_code 24 = .ok (.iconst 1, 1) := by decide +kernel
theorem d_M_isSmall_25 : decode prog_13_method_2_code 25 = .ok (.goto 4, 3) := by decide +kernel
theorem d_M_isSmall_28 : decode prog_13_method_2_code 28 = .ok (.iconst 0, 1) := by decide +kernel
theorem d_M_isSmall_29 : decode prog_13_method_2_code 29 = .ok (.ireturn, 1) := by decide +kernel
theorem d_M_isWord_0 : decode prog_13_method_3_code 0 = .ok (.iload_n 0, 1) := by decide +kernel
theorem d_M_isWord_1 : decode prog_13_method_3_code 1 = .ok (.invokestatic 104, 3) := by decide +kernel
theorem d_M_isWord_4 : decode prog_13_method_3_code 4 = .ok (.ifCond .ne 21, 3) := by decide +kernel
theorem d_M_isWord_7 : decode prog_13_method_3_code 7 = .ok (.iload_n 0, 1) := by decide +kernel
theorem d_M_isWord_8 : decode prog_13_method_3_code 8 = .ok (.bipush 65, 2) := by decide +kernel
theorem d_M_isWord_10 : decode prog_13_method_3_code 10 = .ok (.if_icmp .lt 9, 3) := by decide +kernel
theorem d_M_isWord_13 : decode prog_13_method_3_code 13 = .ok (.iload_n 0, 1) := by decide +kernel
theorem d_M_isWord_14 : decode prog_13_method_3_code 14 = .ok (.bipush 90, 2) := by decide +kernel
theorem d_M_isWord_16 : decode prog_13_method_3_code 16 = .ok (.if_icmp .le 9, 3) := by decide +kernel
theorem d_M_isWord_19 : decode prog_13_method_3_code 19 = .ok (.iload_n 0, 1) := by decide +kernel
theorem d_M_isWord_20 : decode prog_13_method_3_code 20 = .ok (.bipush 95, 2) := by decide +kernel
theorem d_M_isWord_22 : decode prog_13_method_3_code 22 = .ok (.if_icmp .ne 7, 3) := by decide +kernel
theorem d_M_isWord_25 : decode prog_13_method_3_code 25 = .ok (.iconst 1, 1) := by decide +kernel
theorem d_M_isWord_26 : decode prog_13_method_3_code 26 = .ok (.goto 4, 3) := by decide +kernel
theorem d_M_isWord_29 : decode prog_13_method_3_code 29 = .ok (.iconst 0, 1) := by decide +kernel
theorem d_M_isWord_30 : decode prog_13_method_3_code 30 = .ok (.ireturn, 1) := by decide +kernel
theorem d_M_isSign_0 : decode prog_13_method_4_code 0 = .ok (.iload_n 0, 1) := by decide +kernel
theorem d_M_isSign_1 : decode prog_13_method_4_code 1 = .ok (.bipush 40, 2) := by decide +kernel
theorem d_M_isSign_3 : decode prog_13_method_4_code 3 = .ok (.if_icmp .eq 57, 3) := by decide +kernel
theorem d_M_isSign_6 : decode prog_13_method_4_code 6 = .ok (.iload_n 0, 1) := by decide +kernel
theorem d_M_isSign_7 : decode prog_13_method_4_code 7 = .ok (.bipush 41, 2) := by decide +kernel
theorem d_M_isSign_9 : decode prog_13_method_4_code 9 = .ok (.if_icmp .eq 51, 3) := by decide +kernel
theorem d_M_isSign_12 : decode prog_13_method_4_code 12 = .ok (.iload_n 0, 1) := by decide +kernel
theorem d_M_isSign_13 : decode prog_13_method_4_code 13 = .ok (.bipush 44, 2) := by decide +kernel
theorem d_M_isSign_15 : decode prog_13_method_4_code 15 = .ok (.if_icmp .eq 45, 3) := by decide +kernel
theorem d_M_isSign_18 : decode prog_13_method_4_code 18 = .ok (.iload_n 0, 1) := by decide +kernel
theorem d_M_isSign_19 : decode prog_13_method_4_code 19 = .ok (.bipush 46, 2) := by decide +kernel
theorem d_M_isSign_21 : decode prog_13_method_4_code 21 = .ok (.if_icmp .eq 39, 3) := by decide +kernel
theorem d_M_isSign_24 : decode prog_13_method_4_code 24 = .ok (.iload_n 0, 1) := by decide +kernel
theorem d_M_isSign_25 : decode prog_13_method_4_code 25 = .ok (.bipush 58, 2) := by decide +kernel
theorem d_M_isSign_27 : decode prog_13_method_4_code 27 = .ok (.if_icmp .eq 33, 3) := by decide +kernel
theorem d_M_isSign_30 : decode prog_13_method_4_code 30 = .ok (.iload_n 0, 1) := by decide +kernel
theorem d_M_isSign_31 : decode prog_13_method_4_code 31 = .ok (.bipush 45, 2) := by decide +kernel
theorem d_M_isSign_33 : decode prog_13_method_4_code 33 = .ok (.if_icmp .eq 27, 3) := by decide +kernel
theorem d_M_isSign_36 : decode prog_13_method_4_code 36 = .ok (.iload_n 0, 1) := by decide +kernel
theorem d_M_isSign_37 : decode prog_13_method_4_code 37 = .ok (.bipush 33, 2) := by decide +kernel
theorem d_M_isSign_39 : decode prog_13_method_4_code 39 = .ok (.if_icmp .eq 21, 3) := by decide +kernel
theorem d_M_isSign_42 : decode prog_13_method_4_code 42 = .ok (.iload_n 0, 1) := by decide +kernel
theorem d_M_isSign_43 : decode prog_13_method_4_code 43 = .ok (.bipush 91, 2) := by decide +kernel
theorem d_M_isSign_45 : decode prog_13_method_4_code 45 = .ok (.if_icmp .eq 15, 3) := by decide +kernel
theorem d_M_isSign_48 : decode prog_13_method_4_code 48 = .ok (.iload_n 0, 1) := by decide +kernel
theorem d_M_isSign_49 : decode prog_13_method_4_code 49 = .ok (.bipush 93, 2) := by decide +kernel
theorem d_M_isSign_51 : decode prog_13_method_4_code 51 = .ok (.if_icmp .eq 9, 3) := by decide +kernel
theorem d_M_isSign_54 : decode prog_13_method_4_code 54 = .ok (.iload_n 0, 1) := by decide +kernel
theorem d_M_isSign_55 : decode prog_13_method_4_code 55 = .ok (.bipush 124, 2) := by decide +kernel
theorem d_M_isSign_57 : decode prog_13_method_4_code 57 = .ok (.if_icmp .ne 7, 3) := by decide +kernel
theorem d_M_isSign_60 : decode prog_13_method_4_code 60 = .ok (.iconst 1, 1) := by decide +kernel
theorem d_M_isSign_61 : decode prog_13_method_4_code 61 = .ok (.goto 4, 3) := by decide +kernel
theorem d_M_isSign_64 : decode prog_13_method_4_code 64 = .ok (.iconst 0, 1) := by decide +kernel
theorem d_M_isSign_65 : decode prog_13_method_4_code 65 = .ok (.ireturn, 1) := by decide +kernel
theorem d_M_type_0 : decode prog_13_method_5_code 0 = .ok (.iconst 0, 1) := by decide +kernel
theorem d_M_type_1 : decode prog_13_method_5_code 1 = .ok (.istore_n 3, 1) := by decide +kernel
theorem d_M_type_2 : decode prog_13_method_5_code 2 = .ok (.iload_n 3, 1) := by decide +kernel
theorem d_M_type_3 : decode prog_13_method_5_code 3 = .ok (.bipush 8, 2) := by decide +kernel
theorem d_M_type_5 : decode prog_13_method_5_code 5 = .ok (.if_icmp .ge 63, 3) := by decide +kernel
theorem d_M_type_8 : decode prog_13_method_5_code 8 = .ok (.lload_n 1, 1) := by decide +kernel
theorem d_M_type_9 : decode prog_13_method_5_code 9 = .ok (.bipush 8, 2) := by decide +kernel
theorem d_M_type_11 : decode prog_13_method_5_code 11 = .ok (.iload_n 3, 1) := by decide +kernel
theorem d_M_type_12 : decode prog_13_method_5_code 12 = .ok (.imul, 1) := by decide +kernel
theorem d_M_type_13 : decode prog_13_method_5_code 13 = .ok (.lshr, 1) := by decide +kernel
theorem d_M_type_14 : decode prog_13_method_5_code 14 = .ok (.ldc2_w 108, 3) := by decide +kernel
theorem d_M_type_17 : decode prog_13_method_5_code 17 = .ok (.land, 1) := by decide +kernel
theorem d_M_type_18 : decode prog_13_method_5_code 18 = .ok (.lconst 0, 1) := by decide +kernel
theorem d_M_type_19 : decode prog_13_method_5_code 19 = .ok (.lcmp, 1) := by decide +kernel
theorem d_M_type_20 : decode prog_13_method_5_code 20 = .ok (.ifCond .eq 48, 3) := by decide +kernel
theorem d_M_type_23 : decode prog_13_method_5_code 23 = .ok (.lload_n 1, 1) := by decide +kernel
theorem d_M_type_24 : decode prog_13_method_5_code 24 = .ok (.bipush 8, 2) := by decide +kernel
theorem d_M_type_26 : decode prog_13_method_5_code 26 = .ok (.iload_n 3, 1) := by decide +kernel
theorem d_M_type_27 : decode prog_13_method_5_code 27 = .ok (.imul, 1) := by decide +kernel
theorem d_M_type_28 : decode prog_13_method_5_code 28 = .ok (.lshr, 1) := by decide +kernel
theorem d_M_type_29 : decode prog_13_method_5_code 29 = .ok (.ldc2_w 108, 3) := by decide +kernel
theorem d_M_type_32 : decode prog_13_method_5_code 32 = .ok (.land, 1) := by decide +kernel
theorem d_M_type_33 : decode prog_13_method_5_code 33 = .ok (.l2i, 1) := by decide +kernel
theorem d_M_type_34 : decode prog_13_method_5_code 34 = .ok (.istore 4, 2) := by decide +kernel
theorem d_M_type_36 : decode prog_13_method_5_code 36 = .ok (.iload 4, 2) := by decide +kernel
theorem d_M_type_38 : decode prog_13_method_5_code 38 = .ok (.invokestatic 110, 3) := by decide +kernel
theorem d_M_type_41 : decode prog_13_method_5_code 41 = .ok (.ifCond .ne 20, 3) := by decide +kernel
theorem d_M_type_44 : decode prog_13_method_5_code 44 = .ok (.iload 4, 2) := by decide +kernel
theorem d_M_type_46 : decode prog_13_method_5_code 46 = .ok (.invokestatic 113, 3) := by decide +kernel
theorem d_M_type_49 : decode prog_13_method_5_code 49 = .ok (.ifCond .ne 12, 3) := by decide +kernel
theorem d_M_type_52 : decode prog_13_method_5_code 52 = .ok (.iload 4, 2) := by decide +kernel
theorem d_M_type_54 : decode prog_13_method_5_code 54 = .ok (.bipush 32, 2) := by decide +kernel
theorem d_M_type_56 : decode prog_13_method_5_code 56 = .ok (.if_icmp .eq 5, 3) := by decide +kernel
theorem d_M_type_59 : decode prog_13_method_5_code 59 = .ok (.iconst 0, 1) := by decide +kernel
theorem d_M_type_60 : decode prog_13_method_5_code 60 = .ok (.ireturn, 1) := by decide +kernel
theorem d_M_type_61 : decode prog_13_method_5_code 61 = .ok (.iload_n 3, 1) := by decide +kernel
theorem d_M_type_62 : decode prog_13_method_5_code 62 = .ok (.iconst 1, 1) := by decide +kernel
theorem d_M_type_63 : decode prog_13_method_5_code 63 = .ok (.iadd, 1) := by decide +kernel
theorem d_M_type_64 : decode prog_13_method_5_code 64 = .ok (.istore_n 3, 1) := by decide +kernel
theorem d_M_type_65 : decode prog_13_method_5_code 65 = .ok (.goto (-63), 3) := by decide +kernel
theorem d_M_type_68 : decode prog_13_method_5_code 68 = .ok (.aload_n 0, 1) := by decide +kernel
theorem d_M_type_69 : decode prog_13_method_5_code 69 = .ok (.getfield 116, 3) := by decide +kernel
theorem d_M_type_72 : decode prog_13_method_5_code 72 = .ok (.iload_n 3, 1) := by decide +kernel
theorem d_M_type_73 : decode prog_13_method_5_code 73 = .ok (.iadd, 1) := by decide +kernel
theorem d_M_type_74 : decode prog_13_method_5_code 74 = .ok (.sipush 240, 3) := by decide +kernel
theorem d_M_type_77 : decode prog_13_method_5_code 77 = .ok (.if_icmp .le 5, 3) := by decide +kernel
theorem d_M_type_80 : decode prog_13_method_5_code 80 = .ok (.iconst 0, 1) := by decide +kernel
theorem d_M_type_81 : decode prog_13_method_5_code 81 = .ok (.ireturn, 1) := by decide +kernel
theorem d_M_type_82 : decode prog_13_method_5_code 82 = .ok (.iconst 0, 1) := by decide +kernel
theorem d_M_type_83 : decode prog_13_method_5_code 83 = .ok (.istore 4, 2) := by decide +kernel
theorem d_M_type_85 : decode prog_13_method_5_code 85 = .ok (.iload 4, 2) := by decide +kernel
theorem d_M_type_87 : decode prog_13_method_5_code 87 = .ok (.iload_n 3, 1) := by decide +kernel
theorem d_M_type_88 : decode prog_13_method_5_code 88 = .ok (.if_icmp .ge 40, 3) := by decide +kernel
theorem d_M_type_91 : decode prog_13_method_5_code 91 = .ok (.aload_n 0, 1) := by decide +kernel
theorem d_M_type_92 : decode prog_13_method_5_code 92 = .ok (.getfield 7, 3) := by decide +kernel
theorem d_M_type_95 : decode prog_13_method_5_code 95 = .ok (.aload_n 0, 1) := by decide +kernel
theorem d_M_type_96 : decode prog_13_method_5_code 96 = .ok (.getfield 116, 3) := by decide +kernel
theorem d_M_type_99 : decode prog_13_method_5_code 99 = .ok (.lload_n 1, 1) := by decide +kernel
theorem d_M_type_100 : decode prog_13_method_5_code 100 = .ok (.bipush 8, 2) := by decide +kernel
theorem d_M_type_102 : decode prog_13_method_5_code 102 = .ok (.iload 4, 2) := by decide +kernel
theorem d_M_type_104 : decode prog_13_method_5_code 104 = .ok (.imul, 1) := by decide +kernel
theorem d_M_type_105 : decode prog_13_method_5_code 105 = .ok (.lshr, 1) := by decide +kernel
theorem d_M_type_106 : decode prog_13_method_5_code 106 = .ok (.ldc2_w 108, 3) := by decide +kernel
theorem d_M_type_109 : decode prog_13_method_5_code 109 = .ok (.land, 1) := by decide +kernel
theorem d_M_type_110 : decode prog_13_method_5_code 110 = .ok (.l2i, 1) := by decide +kernel
theorem d_M_type_111 : decode prog_13_method_5_code 111 = .ok (.iastore, 1) := by decide +kernel
theorem d_M_type_112 : decode prog_13_method_5_code 112 = .ok (.aload_n 0, 1) := by decide +kernel
theorem d_M_type_113 : decode prog_13_method_5_code 113 = .ok (.aload_n 0, 1) := by decide +kernel
theorem d_M_type_114 : decode prog_13_method_5_code 114 = .ok (.getfield 116, 3) := by decide +kernel
theorem d_M_type_117 : decode prog_13_method_5_code 117 = .ok (.iconst 1, 1) := by decide +kernel
theorem d_M_type_118 : decode prog_13_method_5_code 118 = .ok (.iadd, 1) := by decide +kernel
theorem d_M_type_119 : decode prog_13_method_5_code 119 = .ok (.putfield 116, 3) := by decide +kernel
theorem d_M_type_122 : decode prog_13_method_5_code 122 = .ok (.iinc 4 1, 3) := by decide +kernel
theorem d_M_type_125 : decode prog_13_method_5_code 125 = .ok (.goto (-40), 3) := by decide +kernel
theorem d_M_type_128 : decode prog_13_method_5_code 128 = .ok (.iconst 1, 1) := by decide +kernel
theorem d_M_type_129 : decode prog_13_method_5_code 129 = .ok (.ireturn, 1) := by decide +kernel
theorem d_M_beginPiece_0 : decode prog_13_method_10_code 0 = .ok (.aload_n 0, 1) := by decide +kernel
theorem d_M_beginPiece_1 : decode prog_13_method_10_code 1 = .ok (.getfield 20, 3) := by decide +kernel
theorem d_M_beginPiece_4 : decode prog_13_method_10_code 4 = .ok (.aload_n 0, 1) := by decide +kernel
theorem d_M_beginPiece_5 : decode prog_13_method_10_code 5 = .ok (.getfield 149, 3) := by decide +kernel
theorem d_M_beginPiece_8 : decode prog_13_method_10_code 8 = .ok (.aload_n 0, 1) := by decide +kernel
theorem d_M_beginPiece_9 : decode prog_13_method_10_code 9 = .ok (.getfield 137, 3) := by decide +kernel
theorem d_M_beginPiece_12 : decode prog_13_method_10_code 12 = .ok (.iastore, 1) := by decide +kernel
theorem d_M_beginPiece_13 : decode prog_13_method_10_code 13 = .ok (.aload_n 0, 1) := by decide +kernel
theorem d_M_beginPiece_14 : decode prog_13_method_10_code 14 = .ok (.getfield 23, 3) := by decide +kernel
theorem d_M_beginPiece_17 : decode prog_13_method_10_code 17 = .ok (.aload_n 0, 1) := by decide +kernel
theorem d_M_beginPiece_18 : decode prog_13_method_10_code 18 = .ok (.getfield 149, 3) := by decide +kernel
theorem d_M_beginPiece_21 : decode prog_13_method_10_code 21 = .ok (.iconst 0, 1) := by decide +kernel
theorem d_M_beginPiece_22 : decode prog_13_method_10_code 22 = .ok (.iastore, 1) := by decide +kernel
theorem d_M_beginPiece_23 : decode prog_13_method_10_code 23 = .ok (.aload_n 0, 1) := by decide +kernel
theorem d_M_beginPiece_24 : decode prog_13_method_10_code 24 = .ok (.iconst 0, 1) := by decide +kernel
theorem d_M_beginPiece_25 : decode prog_13_method_10_code 25 = .ok (.putfield 140, 3) := by decide +kernel
theorem d_M_beginPiece_28 : decode prog_13_method_10_code 28 = .ok (.return_, 1) := by decide +kernel
theorem d_M_at_0 : decode prog_13_method_6_code 0 = .ok (.iload_n 1, 1) := by decide +kernel
theorem d_M_at_1 : decode prog_13_method_6_code 1 = .ok (.aload_n 0, 1) := by decide +kernel
theorem d_M_at_2 : decode prog_13_method_6_code 2 = .ok (.getfield 116, 3) := by decide +kernel
theorem d_M_at_5 : decode prog_13_method_6_code 5 = .ok (.if_icmp .ge 12, 3) := by decide +kernel
theorem d_M_at_8 : decode prog_13_method_6_code 8 = .ok (.aload_n 0, 1) := by decide +kernel
theorem d_M_at_9 : decode prog_13_method_6_code 9 = .ok (.getfield 7, 3) := by decide +kernel
theorem d_M_at_12 : decode prog_13_method_6_code 12 = .ok (.iload_n 1, 1) := by decide +kernel
theorem d_M_at_13 : decode prog_13_method_6_code 13 = .ok (.iaload, 1) := by decide +kernel
theorem d_M_at_14 : decode prog_13_method_6_code 14 = .ok (.goto 4, 3) := by decide +kernel
theorem d_M_at_17 : decode prog_13_method_6_code 17 = .ok (.iconst 0, 1) := by decide +kernel
theorem d_M_at_18 : decode prog_13_method_6_code 18 = .ok (.ireturn, 1) := by decide +kernel
theorem d_M_take_0 : decode prog_13_method_7_code 0 = .ok (.aload_n 0, 1) := by decide +kernel
theorem d_M_take_1 : decode prog_13_method_7_code 1 = .ok (.aload_n 0, 1) := by decide +kernel
theorem d_M_take_2 : decode prog_13_method_7_code 2 = .ok (.getfield 120, 3) := by decide +kernel
theorem d_M_take_5 : decode prog_13_method_7_code 5 = .ok (.putfield 123, 3) := by decide +kernel
theorem d_M_take_8 : decode prog_13_method_7_code 8 = .ok (.aload_n 0, 1) := by decide +kernel
theorem d_M_take_9 : decode prog_13_method_7_code 9 = .ok (.aload_n 0, 1) := by decide +kernel
theorem d_M_take_10 : decode prog_13_method_7_code 10 = .ok (.getfield 123, 3) := by decide +kernel
theorem d_M_take_13 : decode prog_13_method_7_code 13 = .ok (.invokevirtual 126, 3) := by decide +kernel
theorem d_M_take_16 : decode prog_13_method_7_code 16 = .ok (.bipush 32, 2) := by decide +kernel
theorem d_M_take_18 : decode prog_13_method_7_code 18 = .ok (.if_icmp .ne 16, 3) := by decide +kernel
theorem d_M_take_21 : decode prog_13_method_7_code 21 = .ok (.aload_n 0, 1) := by decide +kernel
theorem d_M_take_22 : decode prog_13_method_7_code 22 = .ok (.aload_n 0, 1) := by decide +kernel
theorem d_M_take_23 : decode prog_13_method_7_code 23 = .ok (.getfield 123, 3) := by decide +kernel
theorem d_M_take_26 : decode prog_13_method_7_code 26 = .ok (.iconst 1, 1) := by decide +kernel
theorem d_M_take_27 : decode prog_13_method_7_code 27 = .ok (.iadd, 1) := by decide +kernel
theorem d_M_take_28 : decode prog_13_method_7_code 28 = .ok (.putfield 123, 3) := by decide +kernel
theorem d_M_take_31 : decode prog_13_method_7_code 31 = .ok (.goto (-23), 3) := by decide +kernel
theorem d_M_take_34 : decode prog_13_method_7_code 34 = .ok (.aload_n 0, 1) := by decide +kernel
theorem d_M_take_35 : decode prog_13_method_7_code 35 = .ok (.aload_n 0, 1) := by decide +kernel
theorem d_M_take_36 : decode prog_13_method_7_code 36 = .ok (.getfield 123, 3) := by decide +kernel
theorem d_M_take_39 : decode prog_13_method_7_code 39 = .ok (.invokevirtual 126, 3) := by decide +kernel
theorem d_M_take_42 : decode prog_13_method_7_code 42 = .ok (.istore_n 1, 1) := by decide +kernel
theorem d_M_take_43 : decode prog_13_method_7_code 43 = .ok (.aload_n 0, 1) := by decide +kernel
theorem d_M_take_44 : decode prog_13_method_7_code 44 = .ok (.aload_n 0, 1) := by decide +kernel
theorem d_M_take_45 : decode prog_13_method_7_code 45 = .ok (.getfield 123, 3) := by decide +kernel
theorem d_M_take_48 : decode prog_13_method_7_code 48 = .ok (.iconst 1, 1) := by decide +kernel
theorem d_M_take_49 : decode prog_13_method_7_code 49 = .ok (.iadd, 1) := by decide +kernel
theorem d_M_take_50 : decode prog_13_method_7_code 50 = .ok (.putfield 120, 3) := by decide +kernel
theorem d_M_take_53 : decode prog_13_method_7_code 53 = .ok (.iload_n 1, 1) := by decide +kernel
theorem d_M_take_54 : decode prog_13_method_7_code 54 = .ok (.ifCond .ne 19, 3) := by decide +kernel
theorem d_M_take_57 : decode prog_13_method_7_code 57 = .ok (.aload_n 0, 1) := by decide +kernel
theorem d_M_take_58 : decode prog_13_method_7_code 58 = .ok (.iconst 0, 1) := by decide +kernel
theorem d_M_take_59 : decode prog_13_method_7_code 59 = .ok (.putfield 130, 3) := by decide +kernel
theorem d_M_take_62 : decode prog_13_method_7_code 62 = .ok (.aload_n 0, 1) := by decide +kernel
theorem d_M_take_63 : decode prog_13_method_7_code 63 = .ok (.aload_n 0, 1) := by decide +kernel
theorem d_M_take_64 : decode prog_13_method_7_code 64 = .ok (.getfield 123, 3) := by decide +kernel
theorem d_M_take_67 : decode prog_13_method_7_code 67 = .ok (.putfield 120, 3) := by decide +kernel
theorem d_M_take_70 : decode prog_13_method_7_code 70 = .ok (.goto 199, 3) := by decide +kernel
theorem d_M_take_73 : decode prog_13_method_7_code 73 = .ok (.iload_n 1, 1) := by decide +kernel
theorem d_M_take_74 : decode prog_13_method_7_code 74 = .ok (.invokestatic 110, 3) := by decide +kernel
theorem d_M_take_77 : decode prog_13_method_7_code 77 = .ok (.ifCond .eq 132, 3) := by decide +kernel
theorem d_M_take_80 : decode prog_13_method_7_code 80 = .ok (.aload_n 0, 1) := by decide +kernel
theorem d_M_take_81 : decode prog_13_method_7_code 81 = .ok (.lconst 0, 1) := by decide +kernel
theorem d_M_take_82 : decode prog_13_method_7_code 82 = .ok (.putfield 133, 3) := by decide +kernel
theorem d_M_take_85 : decode prog_13_method_7_code 85 = .ok (.aload_n 0, 1) := by decide +kernel
theorem d_M_take_86 : decode prog_13_method_7_code 86 = .ok (.aload_n 0, 1) := by decide +kernel
theorem d_M_take_87 : decode prog_13_method_7_code 87 = .ok (.getfield 123, 3) := by decide +kernel
theorem d_M_take_90 : decode prog_13_method_7_code 90 = .ok (.putfield 120, 3) := by decide +kernel
theorem d_M_take_93 : decode prog_13_method_7_code 93 = .ok (.aload_n 0, 1) := by decide +kernel
theorem d_M_take_94 : decode prog_13_method_7_code 94 = .ok (.aload_n 0, 1) := by decide +kernel
theorem d_M_take_95 : decode prog_13_method_7_code 95 = .ok (.getfield 120, 3) := by decide +kernel
theorem d_M_take_98 : decode prog_13_method_7_code 98 = .ok (.invokevirtual 126, 3) := by decide +kernel
theorem d_M_take_101 : decode prog_13_method_7_code 101 = .ok (.invokestatic 110, 3) := by decide +kernel
theorem d_M_take_104 : decode prog_13_method_7_code 104 = .ok (.ifCond .eq 68, 3) := by decide +kernel
theorem d_M_take_107 : decode prog_13_method_7_code 107 = .ok (.aload_n 0, 1) := by decide +kernel
theorem d_M_take_108 : decode prog_13_method_7_code 108 = .ok (.aload_n 0, 1) := by decide +kernel
theorem d_M_take_109 : decode prog_13_method_7_code 109 = .ok (.getfield 120, 3) := by decide +kernel
theorem d_M_take_112 : decode prog_13_method_7_code 112 = .ok (.aload_n 0, 1) := by decide +kernel
theorem d_M_take_113 : decode prog_13_method_7_code 113 = .ok (.getfield 123, 3) := by decide +kernel
theorem d_M_take_116 : decode prog_13_method_7_code 116 = .ok (.isub, 1) := by decide +kernel
theorem d_M_take_117 : decode prog_13_method_7_code 117 = .ok (.bipush 8, 2) := by decide +kernel
theorem d_M_take_119 : decode prog_13_method_7_code 119 = .ok (.if_icmp .ge 33, 3) := by decide +kernel
theorem d_M_take_122 : decode prog_13_method_7_code 122 = .ok (.aload_n 0, 1) := by decide +kernel
theorem d_M_take_123 : decode prog_13_method_7_code 123 = .ok (.getfield 133, 3) := by decide +kernel
theorem d_M_take_126 : decode prog_13_method_7_code 126 = .ok (.aload_n 0, 1) := by decide +kernel
theorem d_M_take_127 : decode prog_13_method_7_code 127 = .ok (.aload_n 0, 1) := by decide +kernel
theorem d_M_take_128 : decode prog_13_method_7_code 128 = .ok (.getfield 120, 3) := by decide +kernel
theorem d_M_take_131 : decode prog_13_method_7_code 131 = .ok (.invokevirtual 126, 3) := by decide +kernel
theorem d_M_take_134 : decode prog_13_method_7_code 134 = .ok (.i2l, 1) := by decide +kernel
theorem d_M_take_135 : decode prog_13_method_7_code 135 = .ok (.bipush 8, 2) := by decide +kernel
theorem d_M_take_137 : decode prog_13_method_7_code 137 = .ok (.aload_n 0, 1) := by decide +kernel
theorem d_M_take_138 : decode prog_13_method_7_code 138 = .ok (.getfield 120, 3) := by decide +kernel
theorem d_M_take_141 : decode prog_13_method_7_code 141 = .ok (.aload_n 0, 1) := by decide +kernel
theorem d_M_take_142 : decode prog_13_method_7_code 142 = .ok (.getfield 123, 3) := by decide +kernel
theorem d_M_take_145 : decode prog_13_method_7_code 145 = .ok (.isub, 1) := by decide +kernel
theorem d_M_take_146 : decode prog_13_method_7_code 146 = .ok (.imul, 1) := by decide +kernel
theorem d_M_take_147 : decode prog_13_method_7_code 147 = .ok (.lshl, 1) := by decide +kernel
theorem d_M_take_148 : decode prog_13_method_7_code 148 = .ok (.lor, 1) := by decide +kernel
theorem d_M_take_149 : decode prog_13_method_7_code 149 = .ok (.goto 7, 3) := by decide +kernel
theorem d_M_take_152 : decode prog_13_method_7_code 152 = .ok (.aload_n 0, 1) := by decide +kernel
theorem d_M_take_153 : decode prog_13_method_7_code 153 = .ok (.getfield 133, 3) := by decide +kernel
theorem d_M_take_156 : decode prog_13_method_7_code 156 = .ok (.putfield 133, 3) := by decide +kernel
theorem d_M_take_159 : decode prog_13_method_7_code 159 = .ok (.aload_n 0, 1) := by decide +kernel
theorem d_M_take_160 : decode prog_13_method_7_code 160 = .ok (.aload_n 0, 1) := by decide +kernel
theorem d_M_take_161 : decode prog_13_method_7_code 161 = .ok (.getfield 120, 3) := by decide +kernel
theorem d_M_take_164 : decode prog_13_method_7_code 164 = .ok (.iconst 1, 1) := by decide +kernel
theorem d_M_take_165 : decode prog_13_method_7_code 165 = .ok (.iadd, 1) := by decide +kernel
theorem d_M_take_166 : decode prog_13_method_7_code 166 = .ok (.putfield 120, 3) := by decide +kernel
theorem d_M_take_169 : decode prog_13_method_7_code 169 = .ok (.goto (-76), 3) := by decide +kernel
theorem d_M_take_172 : decode prog_13_method_7_code 172 = .ok (.aload_n 0, 1) := by decide +kernel
theorem d_M_take_173 : decode prog_13_method_7_code 173 = .ok (.aload_n 0, 1) := by decide +kernel
theorem d_M_take_174 : decode prog_13_method_7_code 174 = .ok (.getfield 120, 3) := by decide +kernel
theorem d_M_take_177 : decode prog_13_method_7_code 177 = .ok (.aload_n 0, 1) := by decide +kernel
theorem d_M_take_178 : decode prog_13_method_7_code 178 = .ok (.getfield 123, 3) := by decide +kernel
theorem d_M_take_181 : decode prog_13_method_7_code 181 = .ok (.isub, 1) := by decide +kernel
theorem d_M_take_182 : decode prog_13_method_7_code 182 = .ok (.bipush 8, 2) := by decide +kernel
theorem d_M_take_184 : decode prog_13_method_7_code 184 = .ok (.if_icmp .le 7, 3) := by decide +kernel
theorem d_M_take_187 : decode prog_13_method_7_code 187 = .ok (.iconst (-1), 1) := by decide +kernel
theorem d_M_take_188 : decode prog_13_method_7_code 188 = .ok (.goto 15, 3) := by decide +kernel
theorem d_M_take_191 : decode prog_13_method_7_code 191 = .ok (.iload_n 1, 1) := by decide +kernel
theorem d_M_take_192 : decode prog_13_method_7_code 192 = .ok (.invokestatic 104, 3) := by decide +kernel
theorem d_M_take_195 : decode prog_13_method_7_code 195 = .ok (.ifCond .eq 7, 3) := by decide +kernel
theorem d_M_take_198 : decode prog_13_method_7_code 198 = .ok (.iconst 1, 1) := by decide +kernel
theorem d_M_take_199 : decode prog_13_method_7_code 199 = .ok (.goto 4, 3) := by decide +kernel
theorem d_M_take_202 : decode prog_13_method_7_code 202 = .ok (.iconst 2, 1) := by decide +kernel
theorem d_M_take_203 : decode prog_13_method_7_code 203 = .ok (.putfield 130, 3) := by decide +kernel
theorem d_M_take_206 : decode prog_13_method_7_code 206 = .ok (.goto 63, 3) := by decide +kernel
theorem d_M_take_209 : decode prog_13_method_7_code 209 = .ok (.iload_n 1, 1) := by decide +kernel
theorem d_M_take_210 : decode prog_13_method_7_code 210 = .ok (.bipush 58, 2) := by decide +kernel
theorem d_M_take_212 : decode prog_13_method_7_code 212 = .ok (.if_icmp .eq 9, 3) := by decide +kernel
theorem d_M_take_215 : decode prog_13_method_7_code 215 = .ok (.iload_n 1, 1) := by decide +kernel
theorem d_M_take_216 : decode prog_13_method_7_code 216 = .ok (.bipush 45, 2) := by decide +kernel
theorem d_M_take_218 : decode prog_13_method_7_code 218 = .ok (.if_icmp .ne 46, 3) := by decide +kernel
theorem d_M_take_221 : decode prog_13_method_7_code 221 = .ok (.aload_n 0, 1) := by decide +kernel
theorem d_M_take_222 : decode prog_13_method_7_code 222 = .ok (.iload_n 1, 1) := by decide +kernel
theorem d_M_take_223 : decode prog_13_method_7_code 223 = .ok (.bipush 58, 2) := by decide +kernel
theorem d_M_take_225 : decode prog_13_method_7_code 225 = .ok (.if_icmp .ne 22, 3) := by decide +kernel
theorem d_M_take_228 : decode prog_13_method_7_code 228 = .ok (.aload_n 0, 1) := by decide +kernel
theorem d_M_take_229 : decode prog_13_method_7_code 229 = .ok (.aload_n 0, 1) := by decide +kernel
theorem d_M_take_230 : decode prog_13_method_7_code 230 = .ok (.getfield 123, 3) := by decide +kernel
theorem d_M_take_233 : decode prog_13_method_7_code 233 = .ok (.iconst 1, 1) := by decide +kernel
theorem d_M_take_234 : decode prog_13_method_7_code 234 = .ok (.iadd, 1) := by decide +kernel
theorem d_M_take_235 : decode prog_13_method_7_code 235 = .ok (.invokevirtual 126, 3) := by decide +kernel
theorem d_M_take_238 : decode prog_13_method_7_code 238 = .ok (.bipush 45, 2) := by decide +kernel
theorem d_M_take_240 : decode prog_13_method_7_code 240 = .ok (.if_icmp .ne 7, 3) := by decide +kernel
theorem d_M_take_243 : decode prog_13_method_7_code 243 = .ok (.iconst 3, 1) := by decide +kernel
theorem d_M_take_244 : decode prog_13_method_7_code 244 = .ok (.goto 4, 3) := by decide +kernel
theorem d_M_take_247 : decode prog_13_method_7_code 247 = .ok (.iconst (-1), 1) := by decide +kernel
theorem d_M_take_248 : decode prog_13_method_7_code 248 = .ok (.putfield 130, 3) := by decide +kernel
theorem d_M_take_251 : decode prog_13_method_7_code 251 = .ok (.aload_n 0, 1) := by decide +kernel
theorem d_M_take_252 : decode prog_13_method_7_code 252 = .ok (.aload_n 0, 1) := by decide +kernel
theorem d_M_take_253 : decode prog_13_method_7_code 253 = .ok (.getfield 123, 3) := by decide +kernel
theorem d_M_take_256 : decode prog_13_method_7_code 256 = .ok (.iconst 2, 1) := by decide +kernel
theorem d_M_take_257 : decode prog_13_method_7_code 257 = .ok (.iadd, 1) := by decide +kernel
theorem d_M_take_258 : decode prog_13_method_7_code 258 = .ok (.putfield 120, 3) := by decide +kernel
theorem d_M_take_261 : decode prog_13_method_7_code 261 = .ok (.goto 8, 3) := by decide +kernel
theorem d_M_take_264 : decode prog_13_method_7_code 264 = .ok (.aload_n 0, 1) := by decide +kernel
theorem d_M_take_265 : decode prog_13_method_7_code 265 = .ok (.iload_n 1, 1) := by decide +kernel
theorem d_M_take_266 : decode prog_13_method_7_code 266 = .ok (.putfield 130, 3) := by decide +kernel
theorem d_M_take_269 : decode prog_13_method_7_code 269 = .ok (.return_, 1) := by decide +kernel
theorem d_M_push_0 : decode prog_13_method_13_code 0 = .ok (.aload_n 0, 1) := by decide +kernel
theorem d_M_push_1 : decode prog_13_method_13_code 1 = .ok (.getfield 155, 3) := by decide +kernel
theorem d_M_push_4 : decode prog_13_method_13_code 4 = .ok (.bipush 15, 2) := by decide +kernel
theorem d_M_push_6 : decode prog_13_method_13_code 6 = .ok (.if_icmp .ne 5, 3) := by decide +kernel
theorem d_M_push_9 : decode prog_13_method_13_code 9 = .ok (.iconst 0, 1) := by decide +kernel
theorem d_M_push_10 : decode prog_13_method_13_code 10 = .ok (.ireturn, 1) := by decide +kernel
theorem d_M_push_11 : decode prog_13_method_13_code 11 = .ok (.aload_n 0, 1) := by decide +kernel
theorem d_M_push_12 : decode prog_13_method_13_code 12 = .ok (.getfield 38, 3) := by decide +kernel
theorem d_M_push_15 : decode prog_13_method_13_code 15 = .ok (.aload_n 0, 1) := by decide +kernel
theorem d_M_push_16 : decode prog_13_method_13_code 16 = .ok (.getfield 155, 3) := by decide +kernel
theorem d_M_push_19 : decode prog_13_method_13_code 19 = .ok (.iload_n 1, 1) := by decide +kernel
theorem d_M_push_20 : decode prog_13_method_13_code 20 = .ok (.iastore, 1) := by decide +kernel
theorem d_M_push_21 : decode prog_13_method_13_code 21 = .ok (.aload_n 0, 1) := by decide +kernel
theorem d_M_push_22 : decode prog_13_method_13_code 22 = .ok (.getfield 41, 3) := by decide +kernel
theorem d_M_push_25 : decode prog_13_method_13_code 25 = .ok (.aload_n 0, 1) := by decide +kernel
theorem d_M_push_26 : decode prog_13_method_13_code 26 = .ok (.getfield 155, 3) := by decide +kernel
theorem d_M_push_29 : decode prog_13_method_13_code 29 = .ok (.aload_n 0, 1) := by decide +kernel
theorem d_M_push_30 : decode prog_13_method_13_code 30 = .ok (.getfield 137, 3) := by decide +kernel
theorem d_M_push_33 : decode prog_13_method_13_code 33 = .ok (.iconst 1, 1) := by decide +kernel
theorem d_M_push_34 : decode prog_13_method_13_code 34 = .ok (.isub, 1) := by decide +kernel
theorem d_M_push_35 : decode prog_13_method_13_code 35 = .ok (.iastore, 1) := by decide +kernel
theorem d_M_push_36 : decode prog_13_method_13_code 36 = .ok (.aload_n 0, 1) := by decide +kernel
theorem d_M_push_37 : decode prog_13_method_13_code 37 = .ok (.getfield 44, 3) := by decide +kernel
theorem d_M_push_40 : decode prog_13_method_13_code 40 = .ok (.aload_n 0, 1) := by decide +kernel
theorem d_M_push_41 : decode prog_13_method_13_code 41 = .ok (.getfield 155, 3) := by decide +kernel
theorem d_M_push_44 : decode prog_13_method_13_code 44 = .ok (.iconst 1, 1) := by decide +kernel
theorem d_M_push_45 : decode prog_13_method_13_code 45 = .ok (.iastore, 1) := by decide +kernel
theorem d_M_push_46 : decode prog_13_method_13_code 46 = .ok (.aload_n 0, 1) := by decide +kernel
theorem d_M_push_47 : decode prog_13_method_13_code 47 = .ok (.aload_n 0, 1) := by decide +kernel
theorem d_M_push_48 : decode prog_13_method_13_code 48 = .ok (.getfield 155, 3) := by decide +kernel
theorem d_M_push_51 : decode prog_13_method_13_code 51 = .ok (.iconst 1, 1) := by decide +kernel
theorem d_M_push_52 : decode prog_13_method_13_code 52 = .ok (.iadd, 1) := by decide +kernel
theorem d_M_push_53 : decode prog_13_method_13_code 53 = .ok (.putfield 155, 3) := by decide +kernel
theorem d_M_push_56 : decode prog_13_method_13_code 56 = .ok (.iconst 1, 1) := by decide +kernel
theorem d_M_push_57 : decode prog_13_method_13_code 57 = .ok (.ireturn, 1) := by decide +kernel
theorem d_M_emit_0 : decode prog_13_method_8_code 0 = .ok (.aload_n 0, 1) := by decide +kernel
theorem d_M_emit_1 : decode prog_13_method_8_code 1 = .ok (.getfield 13, 3) := by decide +kernel
theorem d_M_emit_4 : decode prog_13_method_8_code 4 = .ok (.aload_n 0, 1) := by decide +kernel
theorem d_M_emit_5 : decode prog_13_method_8_code 5 = .ok (.getfield 137, 3) := by decide +kernel
theorem d_M_emit_8 : decode prog_13_method_8_code 8 = .ok (.lload_n 1, 1) := by decide +kernel
theorem d_M_emit_9 : decode prog_13_method_8_code 9 = .ok (.lastore, 1) := by decide +kernel
theorem d_M_emit_10 : decode prog_13_method_8_code 10 = .ok (.aload_n 0, 1) := by decide +kernel
theorem d_M_emit_11 : decode prog_13_method_8_code 11 = .ok (.getfield 17, 3) := by decide +kernel
theorem d_M_emit_14 : decode prog_13_method_8_code 14 = .ok (.aload_n 0, 1) := by decide +kernel
theorem d_M_emit_15 : decode prog_13_method_8_code 15 = .ok (.getfield 137, 3) := by decide +kernel
theorem d_M_emit_18 : decode prog_13_method_8_code 18 = .ok (.iload_n 3, 1) := by decide +kernel
theorem d_M_emit_19 : decode prog_13_method_8_code 19 = .ok (.iastore, 1) := by decide +kernel
theorem d_M_emit_20 : decode prog_13_method_8_code 20 = .ok (.aload_n 0, 1) := by decide +kernel
theorem d_M_emit_21 : decode prog_13_method_8_code 21 = .ok (.aload_n 0, 1) := by decide +kernel
theorem d_M_emit_22 : decode prog_13_method_8_code 22 = .ok (.getfield 137, 3) := by decide +kernel
theorem d_M_emit_25 : decode prog_13_method_8_code 25 = .ok (.iconst 1, 1) := by decide +kernel
theorem d_M_emit_26 : decode prog_13_method_8_code 26 = .ok (.iadd, 1) := by decide +kernel
theorem d_M_emit_27 : decode prog_13_method_8_code 27 = .ok (.putfield 137, 3) := by decide +kernel
theorem d_M_emit_30 : decode prog_13_method_8_code 30 = .ok (.return_, 1) := by decide +kernel
theorem d_M_beginGoal_0 : decode prog_13_method_11_code 0 = .ok (.aload_n 0, 1) := by decide +kernel
theorem d_M_beginGoal_1 : decode prog_13_method_11_code 1 = .ok (.getfield 29, 3) := by decide +kernel
theorem d_M_beginGoal_4 : decode prog_13_method_11_code 4 = .ok (.aload_n 0, 1) := by decide +kernel
theorem d_M_beginGoal_5 : decode prog_13_method_11_code 5 = .ok (.getfield 152, 3) := by decide +kernel
theorem d_M_beginGoal_8 : decode prog_13_method_11_code 8 = .ok (.aload_n 0, 1) := by decide +kernel
theorem d_M_beginGoal_9 : decode prog_13_method_11_code 9 = .ok (.getfield 137, 3) := by decide +kernel
theorem d_M_beginGoal_12 : decode prog_13_method_11_code 12 = .ok (.iastore, 1) := by decide +kernel
theorem d_M_beginGoal_13 : decode prog_13_method_11_code 13 = .ok (.aload_n 0, 1) := by decide +kernel
theorem d_M_beginGoal_14 : decode prog_13_method_11_code 14 = .ok (.aload_n 0, 1) := by decide +kernel
theorem d_M_beginGoal_15 : decode prog_13_method_11_code 15 = .ok (.getfield 152, 3) := by decide +kernel
theorem d_M_beginGoal_18 : decode prog_13_method_11_code 18 = .ok (.iconst 1, 1) := by decide +kernel
theorem d_M_beginGoal_19 : decode prog_13_method_11_code 19 = .ok (.iadd, 1) := by decide +kernel
theorem d_M_beginGoal_20 : decode prog_13_method_11_code 20 = .ok (.putfield 152, 3) := by decide +kernel
theorem d_M_beginGoal_23 : decode prog_13_method_11_code 23 = .ok (.aload_n 0, 1) := by decide +kernel
theorem d_M_beginGoal_24 : decode prog_13_method_11_code 24 = .ok (.getfield 23, 3) := by decide +kernel
theorem d_M_beginGoal_27 : decode prog_13_method_11_code 27 = .ok (.aload_n 0, 1) := by decide +kernel
theorem d_M_beginGoal_28 : decode prog_13_method_11_code 28 = .ok (.getfield 149, 3) := by decide +kernel
theorem d_M_beginGoal_31 : decode prog_13_method_11_code 31 = .ok (.aload_n 0, 1) := by decide +kernel
theorem d_M_beginGoal_32 : decode prog_13_method_11_code 32 = .ok (.getfield 23, 3) := by decide +kernel
theorem d_M_beginGoal_35 : decode prog_13_method_11_code 35 = .ok (.aload_n 0, 1) := by decide +kernel
theorem d_M_beginGoal_36 : decode prog_13_method_11_code 36 = .ok (.getfield 149, 3) := by decide +kernel
theorem d_M_beginGoal_39 : decode prog_13_method_11_code 39 = .ok (.iaload, 1) := by decide +kernel
theorem d_M_beginGoal_40 : decode prog_13_method_11_code 40 = .ok (.iconst 1, 1) := by decide +kernel
theorem d_M_beginGoal_41 : decode prog_13_method_11_code 41 = .ok (.iadd, 1) := by decide +kernel
theorem d_M_beginGoal_42 : decode prog_13_method_11_code 42 = .ok (.iastore, 1) := by decide +kernel
theorem d_M_beginGoal_43 : decode prog_13_method_11_code 43 = .ok (.return_, 1) := by decide +kernel
theorem d_M_endPiece_0 : decode prog_13_method_12_code 0 = .ok (.aload_n 0, 1) := by decide +kernel
theorem d_M_endPiece_1 : decode prog_13_method_12_code 1 = .ok (.getfield 26, 3) := by decide +kernel
theorem d_M_endPiece_4 : decode prog_13_method_12_code 4 = .ok (.aload_n 0, 1) := by decide +kernel
theorem d_M_endPiece_5 : decode prog_13_method_12_code 5 = .ok (.getfield 149, 3) := by decide +kernel
theorem d_M_endPiece_8 : decode prog_13_method_12_code 8 = .ok (.aload_n 0, 1) := by decide +kernel
theorem d_M_endPiece_9 : decode prog_13_method_12_code 9 = .ok (.getfield 140, 3) := by decide +kernel
theorem d_M_endPiece_12 : decode prog_13_method_12_code 12 = .ok (.iastore, 1) := by decide +kernel
theorem d_M_endPiece_13 : decode prog_13_method_12_code 13 = .ok (.aload_n 0, 1) := by decide +kernel
theorem d_M_endPiece_14 : decode prog_13_method_12_code 14 = .ok (.aload_n 0, 1) := by decide +kernel
theorem d_M_endPiece_15 : decode prog_13_method_12_code 15 = .ok (.getfield 149, 3) := by decide +kernel
theorem d_M_endPiece_18 : decode prog_13_method_12_code 18 = .ok (.iconst 1, 1) := by decide +kernel
theorem d_M_endPiece_19 : decode prog_13_method_12_code 19 = .ok (.iadd, 1) := by decide +kernel
theorem d_M_endPiece_20 : decode prog_13_method_12_code 20 = .ok (.putfield 149, 3) := by decide +kernel
theorem d_M_endPiece_23 : decode prog_13_method_12_code 23 = .ok (.return_, 1) := by decide +kernel
theorem d_M_outside_0 : decode prog_13_method_16_code 0 = .ok (.iload_n 1, 1) := by decide +kernel
theorem d_M_outside_1 : decode prog_13_method_16_code 1 = .ok (.ifCond .eq 8, 3) := by decide +kernel
theorem d_M_outside_4 : decode prog_13_method_16_code 4 = .ok (.iload_n 1, 1) := by decide +kernel
theorem d_M_outside_5 : decode prog_13_method_16_code 5 = .ok (.iconst 2, 1) := by decide +kernel
theorem d_M_outside_6 : decode prog_13_method_16_code 6 = .ok (.if_icmp .ne 39, 3) := by decide +kernel
theorem d_M_outside_9 : decode prog_13_method_16_code 9 = .ok (.aload_n 0, 1) := by decide +kernel
theorem d_M_outside_10 : decode prog_13_method_16_code 10 = .ok (.getfield 130, 3) := by decide +kernel
theorem d_M_outside_13 : decode prog_13_method_16_code 13 = .ok (.iconst 1, 1) := by decide +kernel
theorem d_M_outside_14 : decode prog_13_method_16_code 14 = .ok (.if_icmp .ne 31, 3) := by decide +kernel
theorem d_M_outside_17 : decode prog_13_method_16_code 17 = .ok (.iload_n 1, 1) := by decide +kernel
theorem d_M_outside_18 : decode prog_13_method_16_code 18 = .ok (.ifCond .ne 10, 3) := by decide +kernel
theorem d_M_outside_21 : decode prog_13_method_16_code 21 = .ok (.aload_n 0, 1) := by decide +kernel
theorem d_M_outside_22 : decode prog_13_method_16_code 22 = .ok (.invokevirtual 170, 3) := by decide +kernel
theorem d_M_outside_25 : decode prog_13_method_16_code 25 = .ok (.goto 7, 3) := by decide +kernel
theorem d_M_outside_28 : decode prog_13_method_16_code 28 = .ok (.aload_n 0, 1) := by decide +kernel
theorem d_M_outside_29 : decode prog_13_method_16_code 29 = .ok (.invokevirtual 173, 3) := by decide +kernel
theorem d_M_outside_32 : decode prog_13_method_16_code 32 = .ok (.aload_n 0, 1) := by decide +kernel
theorem d_M_outside_33 : decode prog_13_method_16_code 33 = .ok (.aload_n 0, 1) := by decide +kernel
theorem d_M_outside_34 : decode prog_13_method_16_code 34 = .ok (.getfield 133, 3) := by decide +kernel
theorem d_M_outside_37 : decode prog_13_method_16_code 37 = .ok (.iconst 0, 1) := by decide +kernel
theorem d_M_outside_38 : decode prog_13_method_16_code 38 = .ok (.invokevirtual 145, 3) := by decide +kernel
theorem d_M_outside_41 : decode prog_13_method_16_code 41 = .ok (.iload_n 1, 1) := by decide +kernel
theorem d_M_outside_42 : decode prog_13_method_16_code 42 = .ok (.iconst 1, 1) := by decide +kernel
theorem d_M_outside_43 : decode prog_13_method_16_code 43 = .ok (.iadd, 1) := by decide +kernel
theorem d_M_outside_44 : decode prog_13_method_16_code 44 = .ok (.ireturn, 1) := by decide +kernel
theorem d_M_outside_45 : decode prog_13_method_16_code 45 = .ok (.iload_n 1, 1) := by decide +kernel
theorem d_M_outside_46 : decode prog_13_method_16_code 46 = .ok (.iconst 2, 1) := by decide +kernel
theorem d_M_outside_47 : decode prog_13_method_16_code 47 = .ok (.if_icmp .ne 25, 3) := by decide +kernel
theorem d_M_outside_50 : decode prog_13_method_16_code 50 = .ok (.aload_n 0, 1) := by decide +kernel
theorem d_M_outside_51 : decode prog_13_method_16_code 51 = .ok (.getfield 130, 3) := by decide +kernel
theorem d_M_outside_54 : decode prog_13_method_16_code 54 = .ok (.bipush 33, 2) := by decide +kernel
theorem d_M_outside_56 : decode prog_13_method_16_code 56 = .ok (.if_icmp .ne 16, 3) := by decide +kernel
theorem d_M_outside_59 : decode prog_13_method_16_code 59 = .ok (.aload_n 0, 1) := by decide +kernel
theorem d_M_outside_60 : decode prog_13_method_16_code 60 = .ok (.invokevirtual 173, 3) := by decide +kernel
theorem d_M_outside_63 : decode prog_13_method_16_code 63 = .ok (.aload_n 0, 1) := by decide +kernel
theorem d_M_outside_64 : decode prog_13_method_16_code 64 = .ok (.lconst 0, 1) := by decide +kernel
theorem d_M_outside_65 : decode prog_13_method_16_code 65 = .ok (.bipush (-2), 2) := by decide +kernel
theorem d_M_outside_67 : decode prog_13_method_16_code 67 = .ok (.invokevirtual 145, 3) := by decide +kernel
theorem d_M_outside_70 : decode prog_13_method_16_code 70 = .ok (.iconst 3, 1) := by decide +kernel
theorem d_M_outside_71 : decode prog_13_method_16_code 71 = .ok (.ireturn, 1) := by decide +kernel
theorem d_M_outside_72 : decode prog_13_method_16_code 72 = .ok (.iload_n 1, 1) := by decide +kernel
theorem d_M_outside_73 : decode prog_13_method_16_code 73 = .ok (.iconst 1, 1) := by decide +kernel
theorem d_M_outside_74 : decode prog_13_method_16_code 74 = .ok (.if_icmp .ne 11, 3) := by decide +kernel
theorem d_M_outside_77 : decode prog_13_method_16_code 77 = .ok (.aload_n 0, 1) := by decide +kernel
theorem d_M_outside_78 : decode prog_13_method_16_code 78 = .ok (.getfield 130, 3) := by decide +kernel
theorem d_M_outside_81 : decode prog_13_method_16_code 81 = .ok (.iconst 3, 1) := by decide +kernel
theorem d_M_outside_82 : decode prog_13_method_16_code 82 = .ok (.if_icmp .eq 17, 3) := by decide +kernel
theorem d_M_outside_85 : decode prog_13_method_16_code 85 = .ok (.iload_n 1, 1) := by decide +kernel
theorem d_M_outside_86 : decode prog_13_method_16_code 86 = .ok (.iconst 3, 1) := by decide +kernel
theorem d_M_outside_87 : decode prog_13_method_16_code 87 = .ok (.if_icmp .ne 14, 3) := by decide +kernel
theorem d_M_outside_90 : decode prog_13_method_16_code 90 = .ok (.aload_n 0, 1) := by decide +kernel
theorem d_M_outside_91 : decode prog_13_method_16_code 91 = .ok (.getfield 130, 3) := by decide +kernel
theorem d_M_outside_94 : decode prog_13_method_16_code 94 = .ok (.bipush 44, 2) := by decide +kernel
theorem d_M_outside_96 : decode prog_13_method_16_code 96 = .ok (.if_icmp .ne 5, 3) := by decide +kernel
theorem d_M_outside_99 : decode prog_13_method_16_code 99 = .ok (.iconst 2, 1) := by decide +kernel
theorem d_M_outside_100 : decode prog_13_method_16_code 100 = .ok (.ireturn, 1) := by decide +kernel
theorem d_M_outside_101 : decode prog_13_method_16_code 101 = .ok (.iload_n 1, 1) := by decide +kernel
theorem d_M_outside_102 : decode prog_13_method_16_code 102 = .ok (.iconst 1, 1) := by decide +kernel
theorem d_M_outside_103 : decode prog_13_method_16_code 103 = .ok (.if_icmp .eq 8, 3) := by decide +kernel
theorem d_M_outside_106 : decode prog_13_method_16_code 106 = .ok (.iload_n 1, 1) := by decide +kernel
theorem d_M_outside_107 : decode prog_13_method_16_code 107 = .ok (.iconst 3, 1) := by decide +kernel
theorem d_M_outside_108 : decode prog_13_method_16_code 108 = .ok (.if_icmp .ne 26, 3) := by decide +kernel
theorem d_M_outside_111 : decode prog_13_method_16_code 111 = .ok (.aload_n 0, 1) := by decide +kernel
theorem d_M_outside_112 : decode prog_13_method_16_code 112 = .ok (.getfield 130, 3) := by decide +kernel
theorem d_M_outside_115 : decode prog_13_method_16_code 115 = .ok (.bipush 46, 2) := by decide +kernel
theorem d_M_outside_117 : decode prog_13_method_16_code 117 = .ok (.if_icmp .ne 17, 3) := by decide +kernel
theorem d_M_outside_120 : decode prog_13_method_16_code 120 = .ok (.aload_n 0, 1) := by decide +kernel
theorem d_M_outside_121 : decode prog_13_method_16_code 121 = .ok (.invokevirtual 176, 3) := by decide +kernel
theorem d_M_outside_124 : decode prog_13_method_16_code 124 = .ok (.iload_n 2, 1) := by decide +kernel
theorem d_M_outside_125 : decode prog_13_method_16_code 125 = .ok (.ifCond .eq 7, 3) := by decide +kernel
theorem d_M_outside_128 : decode prog_13_method_16_code 128 = .ok (.iconst 4, 1) := by decide +kernel
theorem d_M_outside_129 : decode prog_13_method_16_code 129 = .ok (.goto 4, 3) := by decide +kernel
theorem d_M_outside_132 : decode prog_13_method_16_code 132 = .ok (.iconst 0, 1) := by decide +kernel
theorem d_M_outside_133 : decode prog_13_method_16_code 133 = .ok (.ireturn, 1) := by decide +kernel
theorem d_M_outside_134 : decode prog_13_method_16_code 134 = .ok (.iconst (-1), 1) := by decide +kernel
theorem d_M_outside_135 : decode prog_13_method_16_code 135 = .ok (.ireturn, 1) := by decide +kernel
theorem d_M_emitVariable_0 : decode prog_13_method_9_code 0 = .ok (.iconst (-1), 1) := by decide +kernel
theorem d_M_emitVariable_1 : decode prog_13_method_9_code 1 = .ok (.istore_n 1, 1) := by decide +kernel
theorem d_M_emitVariable_2 : decode prog_13_method_9_code 2 = .ok (.iconst 0, 1) := by decide +kernel
theorem d_M_emitVariable_3 : decode prog_13_method_9_code 3 = .ok (.istore_n 2, 1) := by decide +kernel
theorem d_M_emitVariable_4 : decode prog_13_method_9_code 4 = .ok (.iload_n 2, 1) := by decide +kernel
theorem d_M_emitVariable_5 : decode prog_13_method_9_code 5 = .ok (.aload_n 0, 1) := by decide +kernel
theorem d_M_emitVariable_6 : decode prog_13_method_9_code 6 = .ok (.getfield 140, 3) := by decide +kernel
theorem d_M_emitVariable_9 : decode prog_13_method_9_code 9 = .ok (.if_icmp .ge 40, 3) := by decide +kernel
theorem d_M_emitVariable_12 : decode prog_13_method_9_code 12 = .ok (.aload_n 0, 1) := by decide +kernel
theorem d_M_emitVariable_13 : decode prog_13_method_9_code 13 = .ok (.getfield 133, 3) := by decide +kernel
theorem d_M_emitVariable_16 : decode prog_13_method_9_code 16 = .ok (.ldc2_w 143, 3) := by decide +kernel
theorem d_M_emitVariable_19 : decode prog_13_method_9_code 19 = .ok (.lcmp, 1) := by decide +kernel
theorem d_M_emitVariable_20 : decode prog_13_method_9_code 20 = .ok (.ifCond .eq 21, 3) := by decide +kernel
theorem d_M_emitVariable_23 : decode prog_13_method_9_code 23 = .ok (.aload_n 0, 1) := by decide +kernel
theorem d_M_emitVariable_24 : decode prog_13_method_9_code 24 = .ok (.getfield 32, 3) := by decide +kernel
theorem d_M_emitVariable_27 : decode prog_13_method_9_code 27 = .ok (.iload_n 2, 1) := by decide +kernel
theorem d_M_emitVariable_28 : decode prog_13_method_9_code 28 = .ok (.laload, 1) := by decide +kernel
theorem d_M_emitVariable_29 : decode prog_13_method_9_code 29 = .ok (.aload_n 0, 1) := by decide +kernel
theorem d_M_emitVariable_30 : decode prog_13_method_9_code 30 = .ok (.getfield 133, 3) := by decide +kernel
theorem d_M_emitVariable_33 : decode prog_13_method_9_code 33 = .ok (.lcmp, 1) := by decide +kernel
theorem d_M_emitVariable_34 : decode prog_13_method_9_code 34 = .ok (.ifCond .ne 7, 3) := by decide +kernel
theorem d_M_emitVariable_37 : decode prog_13_method_9_code 37 = .ok (.iload_n 2, 1) := by decide +kernel
theorem d_M_emitVariable_38 : decode prog_13_method_9_code 38 = .ok (.goto 4, 3) := by decide +kernel
theorem d_M_emitVariable_41 : decode prog_13_method_9_code 41 = .ok (.iload_n 1, 1) := by decide +kernel
theorem d_M_emitVariable_42 : decode prog_13_method_9_code 42 = .ok (.istore_n 1, 1) := by decide +kernel
theorem d_M_emitVariable_43 : decode prog_13_method_9_code 43 = .ok (.iinc 2 1, 3) := by decide +kernel
theorem d_M_emitVariable_46 : decode prog_13_method_9_code 46 = .ok (.goto (-42), 3) := by decide +kernel
theorem d_M_emitVariable_49 : decode prog_13_method_9_code 49 = .ok (.iload_n 1, 1) := by decide +kernel
theorem d_M_emitVariable_50 : decode prog_13_method_9_code 50 = .ok (.ifCond .ge 44, 3) := by decide +kernel
theorem d_M_emitVariable_53 : decode prog_13_method_9_code 53 = .ok (.aload_n 0, 1) := by decide +kernel
theorem d_M_emitVariable_54 : decode prog_13_method_9_code 54 = .ok (.getfield 140, 3) := by decide +kernel
theorem d_M_emitVariable_57 : decode prog_13_method_9_code 57 = .ok (.istore_n 1, 1) := by decide +kernel
theorem d_M_emitVariable_58 : decode prog_13_method_9_code 58 = .ok (.aload_n 0, 1) := by decide +kernel
theorem d_M_emitVariable_59 : decode prog_13_method_9_code 59 = .ok (.getfield 32, 3) := by decide +kernel
theorem d_M_emitVariable_62 : decode prog_13_method_9_code 62 = .ok (.aload_n 0, 1) := by decide +kernel
theorem d_M_emitVariable_63 : decode prog_13_method_9_code 63 = .ok (.getfield 140, 3) := by decide +kernel
theorem d_M_emitVariable_66 : decode prog_13_method_9_code 66 = .ok (.aload_n 0, 1) := by decide +kernel
theorem d_M_emitVariable_67 : decode prog_13_method_9_code 67 = .ok (.getfield 133, 3) := by decide +kernel
theorem d_M_emitVariable_70 : decode prog_13_method_9_code 70 = .ok (.lastore, 1) := by decide +kernel
theorem d_M_emitVariable_71 : decode prog_13_method_9_code 71 = .ok (.aload_n 0, 1) := by decide +kernel
theorem d_M_emitVariable_72 : decode prog_13_method_9_code 72 = .ok (.getfield 35, 3) := by decide +kernel
theorem d_M_emitVariable_75 : decode prog_13_method_9_code 75 = .ok (.aload_n 0, 1) := by decide +kernel
theorem d_M_emitVariable_76 : decode prog_13_method_9_code 76 = .ok (.getfield 140, 3) := by decide +kernel
theorem d_M_emitVariable_79 : decode prog_13_method_9_code 79 = .ok (.aload_n 0, 1) := by decide +kernel
theorem d_M_emitVariable_80 : decode prog_13_method_9_code 80 = .ok (.getfield 137, 3) := by decide +kernel
theorem d_M_emitVariable_83 : decode prog_13_method_9_code 83 = .ok (.iastore, 1) := by decide +kernel
theorem d_M_emitVariable_84 : decode prog_13_method_9_code 84 = .ok (.aload_n 0, 1) := by decide +kernel
theorem d_M_emitVariable_85 : decode prog_13_method_9_code 85 = .ok (.aload_n 0, 1) := by decide +kernel
theorem d_M_emitVariable_86 : decode prog_13_method_9_code 86 = .ok (.getfield 140, 3) := by decide +kernel
theorem d_M_emitVariable_89 : decode prog_13_method_9_code 89 = .ok (.iconst 1, 1) := by decide +kernel
theorem d_M_emitVariable_90 : decode prog_13_method_9_code 90 = .ok (.iadd, 1) := by decide +kernel
theorem d_M_emitVariable_91 : decode prog_13_method_9_code 91 = .ok (.putfield 140, 3) := by decide +kernel
theorem d_M_emitVariable_94 : decode prog_13_method_9_code 94 = .ok (.aload_n 0, 1) := by decide +kernel
theorem d_M_emitVariable_95 : decode prog_13_method_9_code 95 = .ok (.iload_n 1, 1) := by decide +kernel
theorem d_M_emitVariable_96 : decode prog_13_method_9_code 96 = .ok (.i2l, 1) := by decide +kernel
theorem d_M_emitVariable_97 : decode prog_13_method_9_code 97 = .ok (.iconst (-1), 1) := by decide +kernel
theorem d_M_emitVariable_98 : decode prog_13_method_9_code 98 = .ok (.invokevirtual 145, 3) := by decide +kernel
theorem d_M_emitVariable_101 : decode prog_13_method_9_code 101 = .ok (.return_, 1) := by decide +kernel
theorem d_M_beginTerm_0 : decode prog_13_method_14_code 0 = .ok (.aload_n 0, 1) := by decide +kernel
theorem d_M_beginTerm_1 : decode prog_13_method_14_code 1 = .ok (.getfield 130, 3) := by decide +kernel
theorem d_M_beginTerm_4 : decode prog_13_method_14_code 4 = .ok (.iconst 1, 1) := by decide +kernel
theorem d_M_beginTerm_5 : decode prog_13_method_14_code 5 = .ok (.if_icmp .eq 22, 3) := by decide +kernel
theorem d_M_beginTerm_8 : decode prog_13_method_14_code 8 = .ok (.aload_n 0, 1) := by decide +kernel
theorem d_M_beginTerm_9 : decode prog_13_method_14_code 9 = .ok (.getfield 130, 3) := by decide +kernel
theorem d_M_beginTerm_12 : decode prog_13_method_14_code 12 = .ok (.iconst 2, 1) := by decide +kernel
theorem d_M_beginTerm_13 : decode prog_13_method_14_code 13 = .ok (.if_icmp .eq 14, 3) := by decide +kernel
theorem d_M_beginTerm_16 : decode prog_13_method_14_code 16 = .ok (.aload_n 0, 1) := by decide +kernel
theorem d_M_beginTerm_17 : decode prog_13_method_14_code 17 = .ok (.getfield 130, 3) := by decide +kernel
theorem d_M_beginTerm_20 : decode prog_13_method_14_code 20 = .ok (.bipush 91, 2) := by decide +kernel
theorem d_M_beginTerm_22 : decode prog_13_method_14_code 22 = .ok (.if_icmp .eq 5, 3) := by decide +kernel
theorem d_M_beginTerm_25 : decode prog_13_method_14_code 25 = .ok (.iconst 0, 1) := by decide +kernel
theorem d_M_beginTerm_26 : decode prog_13_method_14_code 26 = .ok (.ireturn, 1) := by decide +kernel
theorem d_M_beginTerm_27 : decode prog_13_method_14_code 27 = .ok (.aload_n 0, 1) := by decide +kernel
theorem d_M_beginTerm_28 : decode prog_13_method_14_code 28 = .ok (.getfield 38, 3) := by decide +kernel
theorem d_M_beginTerm_31 : decode prog_13_method_14_code 31 = .ok (.aload_n 0, 1) := by decide +kernel
theorem d_M_beginTerm_32 : decode prog_13_method_14_code 32 = .ok (.getfield 155, 3) := by decide +kernel
theorem d_M_beginTerm_35 : decode prog_13_method_14_code 35 = .ok (.iconst 1, 1) := by decide +kernel
theorem d_M_beginTerm_36 : decode prog_13_method_14_code 36 = .ok (.isub, 1) := by decide +kernel
theorem d_M_beginTerm_37 : decode prog_13_method_14_code 37 = .ok (.iaload, 1) := by decide +kernel
theorem d_M_beginTerm_38 : decode prog_13_method_14_code 38 = .ok (.iconst 1, 1) := by decide +kernel
theorem d_M_beginTerm_39 : decode prog_13_method_14_code 39 = .ok (.if_icmp .ne 16, 3) := by decide +kernel
theorem d_M_beginTerm_42 : decode prog_13_method_14_code 42 = .ok (.aload_n 0, 1) := by decide +kernel
theorem d_M_beginTerm_43 : decode prog_13_method_14_code 43 = .ok (.getfield 158, 3) := by decide +kernel
theorem d_M_beginTerm_46 : decode prog_13_method_14_code 46 = .ok (.ifCond .eq 9, 3) := by decide +kernel
theorem d_M_beginTerm_49 : decode prog_13_method_14_code 49 = .ok (.aload_n 0, 1) := by decide +kernel
theorem d_M_beginTerm_50 : decode prog_13_method_14_code 50 = .ok (.lconst 1, 1) := by decide +kernel
theorem d_M_beginTerm_51 : decode prog_13_method_14_code 51 = .ok (.iconst 2, 1) := by decide +kernel
theorem d_M_beginTerm_52 : decode prog_13_method_14_code 52 = .ok (.invokevirtual 145, 3) := by decide +kernel
theorem d_M_beginTerm_55 : decode prog_13_method_14_code 55 = .ok (.aload_n 0, 1) := by decide +kernel
theorem d_M_beginTerm_56 : decode prog_13_method_14_code 56 = .ok (.iconst 0, 1) := by decide +kernel
theorem d_M_beginTerm_57 : decode prog_13_method_14_code 57 = .ok (.putfield 158, 3) := by decide +kernel
theorem d_M_beginTerm_60 : decode prog_13_method_14_code 60 = .ok (.aload_n 0, 1) := by decide +kernel
theorem d_M_beginTerm_61 : decode prog_13_method_14_code 61 = .ok (.getfield 130, 3) := by decide +kernel
theorem d_M_beginTerm_64 : decode prog_13_method_14_code 64 = .ok (.iconst 1, 1) := by decide +kernel
theorem d_M_beginTerm_65 : decode prog_13_method_14_code 65 = .ok (.if_icmp .ne 15, 3) := by decide +kernel
theorem d_M_beginTerm_68 : decode prog_13_method_14_code 68 = .ok (.aload_n 0, 1) := by decide +kernel
theorem d_M_beginTerm_69 : decode prog_13_method_14_code 69 = .ok (.aload_n 0, 1) := by decide +kernel
theorem d_M_beginTerm_70 : decode prog_13_method_14_code 70 = .ok (.getfield 133, 3) := by decide +kernel
theorem d_M_beginTerm_73 : decode prog_13_method_14_code 73 = .ok (.iconst 0, 1) := by decide +kernel
theorem d_M_beginTerm_74 : decode prog_13_method_14_code 74 = .ok (.invokevirtual 145, 3) := by decide +kernel
theorem d_M_beginTerm_77 : decode prog_13_method_14_code 77 = .ok (.goto 33, 3) := by decide +kernel
theorem d_M_beginTerm_80 : decode prog_13_method_14_code 80 = .ok (.aload_n 0, 1) := by decide +kernel
theorem d_M_beginTerm_81 : decode prog_13_method_14_code 81 = .ok (.getfield 130, 3) := by decide +kernel
theorem d_M_beginTerm_84 : decode prog_13_method_14_code 84 = .ok (.iconst 2, 1) := by decide +kernel
theorem d_M_beginTerm_85 : decode prog_13_method_14_code 85 = .ok (.if_icmp .ne 10, 3) := by decide +kernel
theorem d_M_beginTerm_88 : decode prog_13_method_14_code 88 = .ok (.aload_n 0, 1) := by decide +kernel
theorem d_M_beginTerm_89 : decode prog_13_method_14_code 89 = .ok (.invokevirtual 162, 3) := by decide +kernel
theorem d_M_beginTerm_92 : decode prog_13_method_14_code 92 = .ok (.goto 18, 3) := by decide +kernel
theorem d_M_beginTerm_95 : decode prog_13_method_14_code 95 = .ok (.aload_n 0, 1) := by decide +kernel
theorem d_M_beginTerm_96 : decode prog_13_method_14_code 96 = .ok (.iconst 1, 1) := by decide +kernel
theorem d_M_beginTerm_97 : decode prog_13_method_14_code 97 = .ok (.invokevirtual 165, 3) := by decide +kernel
theorem d_M_beginTerm_100 : decode prog_13_method_14_code 100 = .ok (.ifCond .ne 5, 3) := by decide +kernel
theorem d_M_beginTerm_103 : decode prog_13_method_14_code 103 = .ok (.iconst 0, 1) := by decide +kernel
theorem d_M_beginTerm_104 : decode prog_13_method_14_code 104 = .ok (.ireturn, 1) := by decide +kernel
theorem d_M_beginTerm_105 : decode prog_13_method_14_code 105 = .ok (.aload_n 0, 1) := by decide +kernel
theorem d_M_beginTerm_106 : decode prog_13_method_14_code 106 = .ok (.iconst 1, 1) := by decide +kernel
theorem d_M_beginTerm_107 : decode prog_13_method_14_code 107 = .ok (.putfield 158, 3) := by decide +kernel
theorem d_M_beginTerm_110 : decode prog_13_method_14_code 110 = .ok (.iconst 1, 1) := by decide +kernel
theorem d_M_beginTerm_111 : decode prog_13_method_14_code 111 = .ok (.ireturn, 1) := by decide +kernel
theorem d_M_goOn_0 : decode prog_13_method_15_code 0 = .ok (.aload_n 0, 1) := by decide +kernel
theorem d_M_goOn_1 : decode prog_13_method_15_code 1 = .ok (.getfield 155, 3) := by decide +kernel
theorem d_M_goOn_4 : decode prog_13_method_15_code 4 = .ok (.iconst 1, 1) := by decide +kernel
theorem d_M_goOn_5 : decode prog_13_method_15_code 5 = .ok (.isub, 1) := by decide +kernel
theorem d_M_goOn_6 : decode prog_13_method_15_code 6 = .ok (.istore_n 1, 1) := by decide +kernel
theorem d_M_goOn_7 : decode prog_13_method_15_code 7 = .ok (.aload_n 0, 1) := by decide +kernel
theorem d_M_goOn_8 : decode prog_13_method_15_code 8 = .ok (.getfield 130, 3) := by decide +kernel
theorem d_M_goOn_11 : decode prog_13_method_15_code 11 = .ok (.bipush 44, 2) := by decide +kernel
theorem d_M_goOn_13 : decode prog_13_method_15_code 13 = .ok (.if_icmp .ne 48, 3) := by decide +kernel
theorem d_M_goOn_16 : decode prog_13_method_15_code 16 = .ok (.aload_n 0, 1) := by decide +kernel
theorem d_M_goOn_17 : decode prog_13_method_15_code 17 = .ok (.getfield 38, 3) := by decide +kernel
theorem d_M_goOn_20 : decode prog_13_method_15_code 20 = .ok (.iload_n 1, 1) := by decide +kernel
theorem d_M_goOn_21 : decode prog_13_method_15_code 21 = .ok (.iaload, 1) := by decide +kernel
theorem d_M_goOn_22 : decode prog_13_method_15_code 22 = .ok (.iconst 2, 1) := by decide +kernel
theorem d_M_goOn_23 : decode prog_13_method_15_code 23 = .ok (.if_icmp .ge 38, 3) := by decide +kernel
theorem d_M_goOn_26 : decode prog_13_method_15_code 26 = .ok (.aload_n 0, 1) := by decide +kernel
theorem d_M_goOn_27 : decode prog_13_method_15_code 27 = .ok (.getfield 44, 3) := by decide +kernel
theorem d_M_goOn_30 : decode prog_13_method_15_code 30 = .ok (.iload_n 1, 1) := by decide +kernel
theorem d_M_goOn_31 : decode prog_13_method_15_code 31 = .ok (.aload_n 0, 1) := by decide +kernel
theorem d_M_goOn_32 : decode prog_13_method_15_code 32 = .ok (.getfield 44, 3) := by decide +kernel
theorem d_M_goOn_35 : decode prog_13_method_15_code 35 = .ok (.iload_n 1, 1) := by decide +kernel
theorem d_M_goOn_36 : decode prog_13_method_15_code 36 = .ok (.iaload, 1) := by decide +kernel
theorem d_M_goOn_37 : decode prog_13_method_15_code 37 = .ok (.iconst 1, 1) := by decide +kernel
theorem d_M_goOn_38 : decode prog_13_method_15_code 38 = .ok (.iadd, 1) := by decide +kernel
theorem d_M_goOn_39 : decode prog_13_method_15_code 39 = .ok (.iastore, 1) := by decide +kernel
theorem d_M_goOn_40 : decode prog_13_method_15_code 40 = .ok (.aload_n 0, 1) := by decide +kernel
theorem d_M_goOn_41 : decode prog_13_method_15_code 41 = .ok (.aload_n 0, 1) := by decide +kernel
theorem d_M_goOn_42 : decode prog_13_method_15_code 42 = .ok (.getfield 38, 3) := by decide +kernel
theorem d_M_goOn_45 : decode prog_13_method_15_code 45 = .ok (.iload_n 1, 1) := by decide +kernel
theorem d_M_goOn_46 : decode prog_13_method_15_code 46 = .ok (.iaload, 1) := by decide +kernel
theorem d_M_goOn_47 : decode prog_13_method_15_code 47 = .ok (.iconst 1, 1) := by decide +kernel
theorem d_M_goOn_48 : decode prog_13_method_15_code 48 = .ok (.if_icmp .ne 7, 3) := by decide +kernel
theorem d_M_goOn_51 : decode prog_13_method_15_code 51 = .ok (.iconst 1, 1) := by decide +kernel
theorem d_M_goOn_52 : decode prog_13_method_15_code 52 = .ok (.goto 4, 3) := by decide +kernel
theorem d_M_goOn_55 : decode prog_13_method_15_code 55 = .ok (.iconst 0, 1) := by decide +kernel
theorem d_M_goOn_56 : decode prog_13_method_15_code 56 = .ok (.putfield 158, 3) := by decide +kernel
theorem d_M_goOn_59 : decode prog_13_method_15_code 59 = .ok (.iconst 1, 1) := by decide +kernel
theorem d_M_goOn_60 : decode prog_13_method_15_code 60 = .ok (.ireturn, 1) := by decide +kernel
theorem d_M_goOn_61 : decode prog_13_method_15_code 61 = .ok (.aload_n 0, 1) := by decide +kernel
theorem d_M_goOn_62 : decode prog_13_method_15_code 62 = .ok (.getfield 130, 3) := by decide +kernel
theorem d_M_goOn_65 : decode prog_13_method_15_code 65 = .ok (.bipush 41, 2) := by decide +kernel
theorem d_M_goOn_67 : decode prog_13_method_15_code 67 = .ok (.if_icmp .ne 36, 3) := by decide +kernel
theorem d_M_goOn_70 : decode prog_13_method_15_code 70 = .ok (.aload_n 0, 1) := by decide +kernel
theorem d_M_goOn_71 : decode prog_13_method_15_code 71 = .ok (.getfield 38, 3) := by decide +kernel
theorem d_M_goOn_74 : decode prog_13_method_15_code 74 = .ok (.iload_n 1, 1) := by decide +kernel
theorem d_M_goOn_75 : decode prog_13_method_15_code 75 = .ok (.iaload, 1) := by decide +kernel
theorem d_M_goOn_76 : decode prog_13_method_15_code 76 = .ok (.ifCond .ne 27, 3) := by decide +kernel
theorem d_M_goOn_79 : decode prog_13_method_15_code 79 = .ok (.aload_n 0, 1) := by decide +kernel
theorem d_M_goOn_80 : decode prog_13_method_15_code 80 = .ok (.getfield 17, 3) := by decide +kernel
theorem d_M_goOn_83 : decode prog_13_method_15_code 83 = .ok (.aload_n 0, 1) := by decide +kernel
theorem d_M_goOn_84 : decode prog_13_method_15_code 84 = .ok (.getfield 41, 3) := by decide +kernel
theorem d_M_goOn_87 : decode prog_13_method_15_code 87 = .ok (.iload_n 1, 1) := by decide +kernel
theorem d_M_goOn_88 : decode prog_13_method_15_code 88 = .ok (.iaload, 1) := by decide +kernel
theorem d_M_goOn_89 : decode prog_13_method_15_code 89 = .ok (.aload_n 0, 1) := by decide +kernel
theorem d_M_goOn_90 : decode prog_13_method_15_code 90 = .ok (.getfield 44, 3) := by decide +kernel
theorem d_M_goOn_93 : decode prog_13_method_15_code 93 = .ok (.iload_n 1, 1) := by decide +kernel
theorem d_M_goOn_94 : decode prog_13_method_15_code 94 = .ok (.iaload, 1) := by decide +kernel
theorem d_M_goOn_95 : decode prog_13_method_15_code 95 = .ok (.iastore, 1) := by decide +kernel
theorem d_M_goOn_96 : decode prog_13_method_15_code 96 = .ok (.aload_n 0, 1) := by decide +kernel
theorem d_M_goOn_97 : decode prog_13_method_15_code 97 = .ok (.iload_n 1, 1) := by decide +kernel
theorem d_M_goOn_98 : decode prog_13_method_15_code 98 = .ok (.putfield 155, 3) := by decide +kernel
theorem d_M_goOn_101 : decode prog_13_method_15_code 101 = .ok (.iconst 1, 1) := by decide +kernel
theorem d_M_goOn_102 : decode prog_13_method_15_code 102 = .ok (.ireturn, 1) := by decide +kernel
theorem d_M_goOn_103 : decode prog_13_method_15_code 103 = .ok (.aload_n 0, 1) := by decide +kernel
theorem d_M_goOn_104 : decode prog_13_method_15_code 104 = .ok (.getfield 130, 3) := by decide +kernel
theorem d_M_goOn_107 : decode prog_13_method_15_code 107 = .ok (.bipush 93, 2) := by decide +kernel
theorem d_M_goOn_109 : decode prog_13_method_15_code 109 = .ok (.if_icmp .ne 37, 3) := by decide +kernel
theorem d_M_goOn_112 : decode prog_13_method_15_code 112 = .ok (.aload_n 0, 1) := by decide +kernel
theorem d_M_goOn_113 : decode prog_13_method_15_code 113 = .ok (.getfield 38, 3) := by decide +kernel
theorem d_M_goOn_116 : decode prog_13_method_15_code 116 = .ok (.iload_n 1, 1) := by decide +kernel
theorem d_M_goOn_117 : decode prog_13_method_15_code 117 = .ok (.iaload, 1) := by decide +kernel
theorem d_M_goOn_118 : decode prog_13_method_15_code 118 = .ok (.ifCond .le 28, 3) := by decide +kernel
theorem d_M_goOn_121 : decode prog_13_method_15_code 121 = .ok (.aload_n 0, 1) := by decide +kernel
theorem d_M_goOn_122 : decode prog_13_method_15_code 122 = .ok (.getfield 38, 3) := by decide +kernel
theorem d_M_goOn_125 : decode prog_13_method_15_code 125 = .ok (.iload_n 1, 1) := by decide +kernel
theorem d_M_goOn_126 : decode prog_13_method_15_code 126 = .ok (.iaload, 1) := by decide +kernel
theorem d_M_goOn_127 : decode prog_13_method_15_code 127 = .ok (.iconst 1, 1) := by decide +kernel
theorem d_M_goOn_128 : decode prog_13_method_15_code 128 = .ok (.if_icmp .ne 11, 3) := by decide +kernel
theorem d_M_goOn_131 : decode prog_13_method_15_code 131 = .ok (.aload_n 0, 1) := by decide +kernel
theorem d_M_goOn_132 : decode prog_13_method_15_code 132 = .ok (.ldc2_w 168, 3) := by decide +kernel
theorem d_M_goOn_135 : decode prog_13_method_15_code 135 = .ok (.iconst 0, 1) := by decide +kernel
theorem d_M_goOn_136 : decode prog_13_method_15_code 136 = .ok (.invokevirtual 145, 3) := by decide +kernel
theorem d_M_goOn_139 : decode prog_13_method_15_code 139 = .ok (.aload_n 0, 1) := by decide +kernel
theorem d_M_goOn_140 : decode prog_13_method_15_code 140 = .ok (.iload_n 1, 1) := by decide +kernel
theorem d_M_goOn_141 : decode prog_13_method_15_code 141 = .ok (.putfield 155, 3) := by decide +kernel
theorem d_M_goOn_144 : decode prog_13_method_15_code 144 = .ok (.iconst 1, 1) := by decide +kernel
theorem d_M_goOn_145 : decode prog_13_method_15_code 145 = .ok (.ireturn, 1) := by decide +kernel
theorem d_M_goOn_146 : decode prog_13_method_15_code 146 = .ok (.aload_n 0, 1) := by decide +kernel
theorem d_M_goOn_147 : decode prog_13_method_15_code 147 = .ok (.getfield 130, 3) := by decide +kernel
theorem d_M_goOn_150 : decode prog_13_method_15_code 150 = .ok (.bipush 124, 2) := by decide +kernel
theorem d_M_goOn_152 : decode prog_13_method_15_code 152 = .ok (.if_icmp .ne 22, 3) := by decide +kernel
theorem d_M_goOn_155 : decode prog_13_method_15_code 155 = .ok (.aload_n 0, 1) := by decide +kernel
theorem d_M_goOn_156 : decode prog_13_method_15_code 156 = .ok (.getfield 38, 3) := by decide +kernel
theorem d_M_goOn_159 : decode prog_13_method_15_code 159 = .ok (.iload_n 1, 1) := by decide +kernel
theorem d_M_goOn_160 : decode prog_13_method_15_code 160 = .ok (.iaload, 1) := by decide +kernel
theorem d_M_goOn_161 : decode prog_13_method_15_code 161 = .ok (.iconst 1, 1) := by decide +kernel
theorem d_M_goOn_162 : decode prog_13_method_15_code 162 = .ok (.if_icmp .ne 12, 3) := by decide +kernel
theorem d_M_goOn_165 : decode prog_13_method_15_code 165 = .ok (.aload_n 0, 1) := by decide +kernel
theorem d_M_goOn_166 : decode prog_13_method_15_code 166 = .ok (.getfield 38, 3) := by decide +kernel
theorem d_M_goOn_169 : decode prog_13_method_15_code 169 = .ok (.iload_n 1, 1) := by decide +kernel
theorem d_M_goOn_170 : decode prog_13_method_15_code 170 = .ok (.iconst 2, 1) := by decide +kernel
theorem d_M_goOn_171 : decode prog_13_method_15_code 171 = .ok (.iastore, 1) := by decide +kernel
theorem d_M_goOn_172 : decode prog_13_method_15_code 172 = .ok (.iconst 1, 1) := by decide +kernel
theorem d_M_goOn_173 : decode prog_13_method_15_code 173 = .ok (.ireturn, 1) := by decide +kernel
theorem d_M_goOn_174 : decode prog_13_method_15_code 174 = .ok (.iconst 0, 1) := by decide +kernel
theorem d_M_goOn_175 : decode prog_13_method_15_code 175 = .ok (.ireturn, 1) := by decide +kernel
theorem d_M_read_0 : decode prog_13_method_17_code 0 = .ok (.iload_n 1, 1) := by decide +kernel
theorem d_M_read_1 : decode prog_13_method_17_code 1 = .ok (.ifCond .eq 7, 3) := by decide +kernel
theorem d_M_read_4 : decode prog_13_method_17_code 4 = .ok (.iconst 2, 1) := by decide +kernel
theorem d_M_read_5 : decode prog_13_method_17_code 5 = .ok (.goto 4, 3) := by decide +kernel
theorem d_M_read_8 : decode prog_13_method_17_code 8 = .ok (.iconst 0, 1) := by decide +kernel
theorem d_M_read_9 : decode prog_13_method_17_code 9 = .ok (.istore_n 2, 1) := by decide +kernel
theorem d_M_read_10 : decode prog_13_method_17_code 10 = .ok (.iconst 0, 1) := by decide +kernel
theorem d_M_read_11 : decode prog_13_method_17_code 11 = .ok (.istore_n 3, 1) := by decide +kernel
theorem d_M_read_12 : decode prog_13_method_17_code 12 = .ok (.iconst 0, 1) := by decide +kernel
theorem d_M_read_13 : decode prog_13_method_17_code 13 = .ok (.istore 4, 2) := by decide +kernel
theorem d_M_read_15 : decode prog_13_method_17_code 15 = .ok (.aload_n 0, 1) := by decide +kernel
theorem d_M_read_16 : decode prog_13_method_17_code 16 = .ok (.iconst 0, 1) := by decide +kernel
theorem d_M_read_17 : decode prog_13_method_17_code 17 = .ok (.putfield 120, 3) := by decide +kernel
theorem d_M_read_20 : decode prog_13_method_17_code 20 = .ok (.aload_n 0, 1) := by decide +kernel
theorem d_M_read_21 : decode prog_13_method_17_code 21 = .ok (.iconst 0, 1) := by decide +kernel
theorem d_M_read_22 : decode prog_13_method_17_code 22 = .ok (.putfield 137, 3) := by decide +kernel
theorem d_M_read_25 : decode prog_13_method_17_code 25 = .ok (.aload_n 0, 1) := by decide +kernel
theorem d_M_read_26 : decode prog_13_method_17_code 26 = .ok (.iconst 0, 1) := by decide +kernel
theorem d_M_read_27 : decode prog_13_method_17_code 27 = .ok (.putfield 149, 3) := by decide +kernel
theorem d_M_read_30 : decode prog_13_method_17_code 30 = .ok (.aload_n 0, 1) := by decide +kernel
theorem d_M_read_31 : decode prog_13_method_17_code 31 = .ok (.iconst 0, 1) := by decide +kernel
theorem d_M_read_32 : decode prog_13_method_17_code 32 = .ok (.putfield 152, 3) := by decide +kernel
theorem d_M_read_35 : decode prog_13_method_17_code 35 = .ok (.aload_n 0, 1) := by decide +kernel
theorem d_M_read_36 : decode prog_13_method_17_code 36 = .ok (.iconst 0, 1) := by decide +kernel
theorem d_M_read_37 : decode prog_13_method_17_code 37 = .ok (.putfield 155, 3) := by decide +kernel
theorem d_M_read_40 : decode prog_13_method_17_code 40 = .ok (.aload_n 0, 1) := by decide +kernel
theorem d_M_read_41 : decode prog_13_method_17_code 41 = .ok (.iconst 0, 1) := by decide +kernel
theorem d_M_read_42 : decode prog_13_method_17_code 42 = .ok (.putfield 158, 3) := by decide +kernel
theorem d_M_read_45 : decode prog_13_method_17_code 45 = .ok (.aload_n 0, 1) := by decide +kernel
theorem d_M_read_46 : decode prog_13_method_17_code 46 = .ok (.invokevirtual 170, 3) := by decide +kernel
theorem d_M_read_49 : decode prog_13_method_17_code 49 = .ok (.iconst 0, 1) := by decide +kernel
theorem d_M_read_50 : decode prog_13_method_17_code 50 = .ok (.istore 5, 2) := by decide +kernel
theorem d_M_read_52 : decode prog_13_method_17_code 52 = .ok (.iload 5, 2) := by decide +kernel
theorem d_M_read_54 : decode prog_13_method_17_code 54 = .ok (.sipush 300, 3) := by decide +kernel
theorem d_M_read_57 : decode prog_13_method_17_code 57 = .ok (.if_icmp .ge 287, 3) := by decide +kernel
theorem d_M_read_60 : decode prog_13_method_17_code 60 = .ok (.aload_n 0, 1) := by decide +kernel
theorem d_M_read_61 : decode prog_13_method_17_code 61 = .ok (.invokevirtual 179, 3) := by decide +kernel
theorem d_M_read_64 : decode prog_13_method_17_code 64 = .ok (.aload_n 0, 1) := by decide +kernel
theorem d_M_read_65 : decode prog_13_method_17_code 65 = .ok (.getfield 130, 3) := by decide +kernel
theorem d_M_read_68 : decode prog_13_method_17_code 68 = .ok (.ifCond .ne 28, 3) := by decide +kernel
theorem d_M_read_71 : decode prog_13_method_17_code 71 = .ok (.aload_n 0, 1) := by decide +kernel
theorem d_M_read_72 : decode prog_13_method_17_code 72 = .ok (.getfield 155, 3) := by decide +kernel
theorem d_M_read_75 : decode prog_13_method_17_code 75 = .ok (.ifCond .ne 16, 3) := by decide +kernel
theorem d_M_read_78 : decode prog_13_method_17_code 78 = .ok (.iload_n 2, 1) := by decide +kernel
theorem d_M_read_79 : decode prog_13_method_17_code 79 = .ok (.ifCond .eq 8, 3) := by decide +kernel
theorem d_M_read_82 : decode prog_13_method_17_code 82 = .ok (.iload_n 2, 1) := by decide +kernel
theorem d_M_read_83 : decode prog_13_method_17_code 83 = .ok (.iconst 4, 1) := by decide +kernel
theorem d_M_read_84 : decode prog_13_method_17_code 84 = .ok (.if_icmp .ne 7, 3) := by decide +kernel
theorem d_M_read_87 : decode prog_13_method_17_code 87 = .ok (.iconst (-1), 1) := by decide +kernel
theorem d_M_read_88 : decode prog_13_method_17_code 88 = .ok (.goto 7, 3) := by decide +kernel
theorem d_M_read_91 : decode prog_13_method_17_code 91 = .ok (.aload_n 0, 1) := by decide +kernel
theorem d_M_read_92 : decode prog_13_method_17_code 92 = .ok (.getfield 116, 3) := by decide +kernel
theorem d_M_read_95 : decode prog_13_method_17_code 95 = .ok (.ireturn, 1) := by decide +kernel
theorem d_M_read_96 : decode prog_13_method_17_code 96 = .ok (.iload_n 3, 1) := by decide +kernel
theorem d_M_read_97 : decode prog_13_method_17_code 97 = .ok (.ifCond .eq 33, 3) := by decide +kernel
theorem d_M_read_100 : decode prog_13_method_17_code 100 = .ok (.aload_n 0, 1) := by decide +kernel
theorem d_M_read_101 : decode prog_13_method_17_code 101 = .ok (.getfield 130, 3) := by decide +kernel
theorem d_M_read_104 : decode prog_13_method_17_code 104 = .ok (.bipush 40, 2) := by decide +kernel
theorem d_M_read_106 : decode prog_13_method_17_code 106 = .ok (.if_icmp .ne 24, 3) := by decide +kernel
theorem d_M_read_109 : decode prog_13_method_17_code 109 = .ok (.aload_n 0, 1) := by decide +kernel
theorem d_M_read_110 : decode prog_13_method_17_code 110 = .ok (.iconst 0, 1) := by decide +kernel
theorem d_M_read_111 : decode prog_13_method_17_code 111 = .ok (.invokevirtual 165, 3) := by decide +kernel
theorem d_M_read_114 : decode prog_13_method_17_code 114 = .ok (.ifCond .ne 8, 3) := by decide +kernel
theorem d_M_read_117 : decode prog_13_method_17_code 117 = .ok (.aload_n 0, 1) := by decide +kernel
theorem d_M_read_118 : decode prog_13_method_17_code 118 = .ok (.getfield 123, 3) := by decide +kernel
theorem d_M_read_121 : decode prog_13_method_17_code 121 = .ok (.ireturn, 1) := by decide +kernel
theorem d_M_read_122 : decode prog_13_method_17_code 122 = .ok (.iconst 0, 1) := by decide +kernel
theorem d_M_read_123 : decode prog_13_method_17_code 123 = .ok (.istore_n 3, 1) := by decide +kernel
theorem d_M_read_124 : decode prog_13_method_17_code 124 = .ok (.iconst 1, 1) := by decide +kernel
theorem d_M_read_125 : decode prog_13_method_17_code 125 = .ok (.istore 4, 2) := by decide +kernel
theorem d_M_read_127 : decode prog_13_method_17_code 127 = .ok (.goto 211, 3) := by decide +kernel
theorem d_M_read_130 : decode prog_13_method_17_code 130 = .ok (.aload_n 0, 1) := by decide +kernel
theorem d_M_read_131 : decode prog_13_method_17_code 131 = .ok (.getfield 155, 3) := by decide +kernel
theorem d_M_read_134 : decode prog_13_method_17_code 134 = .ok (.ifCond .ne 33, 3) := by decide +kernel
theorem d_M_read_137 : decode prog_13_method_17_code 137 = .ok (.aload_n 0, 1) := by decide +kernel
theorem d_M_read_138 : decode prog_13_method_17_code 138 = .ok (.iload_n 2, 1) := by decide +kernel
theorem d_M_read_139 : decode prog_13_method_17_code 139 = .ok (.iload_n 1, 1) := by decide +kernel
theorem d_M_read_140 : decode prog_13_method_17_code 140 = .ok (.invokevirtual 182, 3) := by decide +kernel
theorem d_M_read_143 : decode prog_13_method_17_code 143 = .ok (.istore_n 2, 1) := by decide +kernel
theorem d_M_read_144 : decode prog_13_method_17_code 144 = .ok (.aload_n 0, 1) := by decide +kernel
theorem d_M_read_145 : decode prog_13_method_17_code 145 = .ok (.getfield 130, 3) := by decide +kernel
theorem d_M_read_148 : decode prog_13_method_17_code 148 = .ok (.iconst 1, 1) := by decide +kernel
theorem d_M_read_149 : decode prog_13_method_17_code 149 = .ok (.if_icmp .ne 7, 3) := by decide +kernel
theorem d_M_read_152 : decode prog_13_method_17_code 152 = .ok (.iconst 1, 1) := by decide +kernel
theorem d_M_read_153 : decode prog_13_method_17_code 153 = .ok (.goto 4, 3) := by decide +kernel
theorem d_M_read_156 : decode prog_13_method_17_code 156 = .ok (.iconst 0, 1) := by decide +kernel
theorem d_M_read_157 : decode prog_13_method_17_code 157 = .ok (.istore_n 3, 1) := by decide +kernel
theorem d_M_read_158 : decode prog_13_method_17_code 158 = .ok (.iload_n 2, 1) := by decide +kernel
theorem d_M_read_159 : decode prog_13_method_17_code 159 = .ok (.ifCond .ge 179, 3) := by decide +kernel
theorem d_M_read_162 : decode prog_13_method_17_code 162 = .ok (.aload_n 0, 1) := by decide +kernel
theorem d_M_read_163 : decode prog_13_method_17_code 163 = .ok (.getfield 123, 3) := by decide +kernel
theorem d_M_read_166 : decode prog_13_method_17_code 166 = .ok (.ireturn, 1) := by decide +kernel
theorem d_M_read_167 : decode prog_13_method_17_code 167 = .ok (.iload 4, 2) := by decide +kernel
theorem d_M_read_169 : decode prog_13_method_17_code 169 = .ok (.ifCond .eq 80, 3) := by decide +kernel
theorem d_M_read_172 : decode prog_13_method_17_code 172 = .ok (.aload_n 0, 1) := by decide +kernel
theorem d_M_read_173 : decode prog_13_method_17_code 173 = .ok (.getfield 130, 3) := by decide +kernel
theorem d_M_read_176 : decode prog_13_method_17_code 176 = .ok (.bipush 93, 2) := by decide +kernel
theorem d_M_read_178 : decode prog_13_method_17_code 178 = .ok (.if_icmp .ne 71, 3) := by decide +kernel
theorem d_M_read_181 : decode prog_13_method_17_code 181 = .ok (.aload_n 0, 1) := by decide +kernel
theorem d_M_read_182 : decode prog_13_method_17_code 182 = .ok (.getfield 158, 3) := by decide +kernel
theorem d_M_read_185 : decode prog_13_method_17_code 185 = .ok (.ifCond .eq 64, 3) := by decide +kernel
theorem d_M_read_188 : decode prog_13_method_17_code 188 = .ok (.aload_n 0, 1) := by decide +kernel
theorem d_M_read_189 : decode prog_13_method_17_code 189 = .ok (.getfield 38, 3) := by decide +kernel
theorem d_M_read_192 : decode prog_13_method_17_code 192 = .ok (.aload_n 0, 1) := by decide +kernel
theorem d_M_read_193 : decode prog_13_method_17_code 193 = .ok (.getfield 155, 3) := by decide +kernel
theorem d_M_read_196 : decode prog_13_method_17_code 196 = .ok (.iconst 1, 1) := by decide +kernel
theorem d_M_read_197 : decode prog_13_method_17_code 197 = .ok (.isub, 1) := by decide +kernel
theorem d_M_read_198 : decode prog_13_method_17_code 198 = .ok (.iaload, 1) := by decide +kernel
theorem d_M_read_199 : decode prog_13_method_17_code 199 = .ok (.iconst 1, 1) := by decide +kernel
theorem d_M_read_200 : decode prog_13_method_17_code 200 = .ok (.if_icmp .ne 49, 3) := by decide +kernel
theorem d_M_read_203 : decode prog_13_method_17_code 203 = .ok (.aload_n 0, 1) := by decide +kernel
theorem d_M_read_204 : decode prog_13_method_17_code 204 = .ok (.getfield 44, 3) := by decide +kernel
theorem d_M_read_207 : decode prog_13_method_17_code 207 = .ok (.aload_n 0, 1) := by decide +kernel
theorem d_M_read_208 : decode prog_13_method_17_code 208 = .ok (.getfield 155, 3) := by decide +kernel
theorem d_M_read_211 : decode prog_13_method_17_code 211 = .ok (.iconst 1, 1) := by decide +kernel
theorem d_M_read_212 : decode prog_13_method_17_code 212 = .ok (.isub, 1) := by decide +kernel
theorem d_M_read_213 : decode prog_13_method_17_code 213 = .ok (.iaload, 1) := by decide +kernel
theorem d_M_read_214 : decode prog_13_method_17_code 214 = .ok (.iconst 1, 1) := by decide +kernel
theorem d_M_read_215 : decode prog_13_method_17_code 215 = .ok (.if_icmp .ne 34, 3) := by decide +kernel
theorem d_M_read_218 : decode prog_13_method_17_code 218 = .ok (.aload_n 0, 1) := by decide +kernel
theorem d_M_read_219 : decode prog_13_method_17_code 219 = .ok (.ldc2_w 168, 3) := by decide +kernel
theorem d_M_read_222 : decode prog_13_method_17_code 222 = .ok (.iconst 0, 1) := by decide +kernel
theorem d_M_read_223 : decode prog_13_method_17_code 223 = .ok (.invokevirtual 145, 3) := by decide +kernel
theorem d_M_read_226 : decode prog_13_method_17_code 226 = .ok (.aload_n 0, 1) := by decide +kernel
theorem d_M_read_227 : decode prog_13_method_17_code 227 = .ok (.aload_n 0, 1) := by decide +kernel
theorem d_M_read_228 : decode prog_13_method_17_code 228 = .ok (.getfield 155, 3) := by decide +kernel
theorem d_M_read_231 : decode prog_13_method_17_code 231 = .ok (.iconst 1, 1) := by decide +kernel
theorem d_M_read_232 : decode prog_13_method_17_code 232 = .ok (.isub, 1) := by decide +kernel
theorem d_M_read_233 : decode prog_13_method_17_code 233 = .ok (.putfield 155, 3) := by decide +kernel
theorem d_M_read_236 : decode prog_13_method_17_code 236 = .ok (.aload_n 0, 1) := by decide +kernel
theorem d_M_read_237 : decode prog_13_method_17_code 237 = .ok (.iconst 0, 1) := by decide +kernel
theorem d_M_read_238 : decode prog_13_method_17_code 238 = .ok (.putfield 158, 3) := by decide +kernel
theorem d_M_read_241 : decode prog_13_method_17_code 241 = .ok (.iconst 0, 1) := by decide +kernel
theorem d_M_read_242 : decode prog_13_method_17_code 242 = .ok (.istore_n 3, 1) := by decide +kernel
theorem d_M_read_243 : decode prog_13_method_17_code 243 = .ok (.iconst 0, 1) := by decide +kernel
theorem d_M_read_244 : decode prog_13_method_17_code 244 = .ok (.istore 4, 2) := by decide +kernel
theorem d_M_read_246 : decode prog_13_method_17_code 246 = .ok (.goto 92, 3) := by decide +kernel
theorem d_M_read_249 : decode prog_13_method_17_code 249 = .ok (.iload 4, 2) := by decide +kernel
theorem d_M_read_251 : decode prog_13_method_17_code 251 = .ok (.ifCond .eq 48, 3) := by decide +kernel
theorem d_M_read_254 : decode prog_13_method_17_code 254 = .ok (.aload_n 0, 1) := by decide +kernel
theorem d_M_read_255 : decode prog_13_method_17_code 255 = .ok (.invokevirtual 186, 3) := by decide +kernel
theorem d_M_read_258 : decode prog_13_method_17_code 258 = .ok (.ifCond .ne 8, 3) := by decide +kernel
theorem d_M_read_261 : decode prog_13_method_17_code 261 = .ok (.aload_n 0, 1) := by decide +kernel
theorem d_M_read_262 : decode prog_13_method_17_code 262 = .ok (.getfield 123, 3) := by decide +kernel
theorem d_M_read_265 : decode prog_13_method_17_code 265 = .ok (.ireturn, 1) := by decide +kernel
theorem d_M_read_266 : decode prog_13_method_17_code 266 = .ok (.aload_n 0, 1) := by decide +kernel
theorem d_M_read_267 : decode prog_13_method_17_code 267 = .ok (.getfield 130, 3) := by decide +kernel
theorem d_M_read_270 : decode prog_13_method_17_code 270 = .ok (.iconst 1, 1) := by decide +kernel
theorem d_M_read_271 : decode prog_13_method_17_code 271 = .ok (.if_icmp .ne 7, 3) := by decide +kernel
theorem d_M_read_274 : decode prog_13_method_17_code 274 = .ok (.iconst 1, 1) := by decide +kernel
theorem d_M_read_275 : decode prog_13_method_17_code 275 = .ok (.goto 4, 3) := by decide +kernel
theorem d_M_read_278 : decode prog_13_method_17_code 278 = .ok (.iconst 0, 1) := by decide +kernel
theorem d_M_read_279 : decode prog_13_method_17_code 279 = .ok (.istore_n 3, 1) := by decide +kernel
theorem d_M_read_280 : decode prog_13_method_17_code 280 = .ok (.aload_n 0, 1) := by decide +kernel
theorem d_M_read_281 : decode prog_13_method_17_code 281 = .ok (.getfield 130, 3) := by decide +kernel
theorem d_M_read_284 : decode prog_13_method_17_code 284 = .ok (.bipush 91, 2) := by decide +kernel
theorem d_M_read_286 : decode prog_13_method_17_code 286 = .ok (.if_icmp .ne 7, 3) := by decide +kernel
theorem d_M_read_289 : decode prog_13_method_17_code 289 = .ok (.iconst 1, 1) := by decide +kernel
theorem d_M_read_290 : decode prog_13_method_17_code 290 = .ok (.goto 4, 3) := by decide +kernel
theorem d_M_read_293 : decode prog_13_method_17_code 293 = .ok (.iconst 0, 1) := by decide +kernel
theorem d_M_read_294 : decode prog_13_method_17_code 294 = .ok (.istore 4, 2) := by decide +kernel
theorem d_M_read_296 : decode prog_13_method_17_code 296 = .ok (.goto 42, 3) := by decide +kernel
theorem d_M_read_299 : decode prog_13_method_17_code 299 = .ok (.aload_n 0, 1) := by decide +kernel
theorem d_M_read_300 : decode prog_13_method_17_code 300 = .ok (.invokevirtual 190, 3) := by decide +kernel
theorem d_M_read_303 : decode prog_13_method_17_code 303 = .ok (.ifCond .ne 8, 3) := by decide +kernel
theorem d_M_read_306 : decode prog_13_method_17_code 306 = .ok (.aload_n 0, 1) := by decide +kernel
theorem d_M_read_307 : decode prog_13_method_17_code 307 = .ok (.getfield 123, 3) := by decide +kernel
theorem d_M_read_310 : decode prog_13_method_17_code 310 = .ok (.ireturn, 1) := by decide +kernel
theorem d_M_read_311 : decode prog_13_method_17_code 311 = .ok (.iconst 0, 1) := by decide +kernel
theorem d_M_read_312 : decode prog_13_method_17_code 312 = .ok (.istore_n 3, 1) := by decide +kernel
theorem d_M_read_313 : decode prog_13_method_17_code 313 = .ok (.aload_n 0, 1) := by decide +kernel
theorem d_M_read_314 : decode prog_13_method_17_code 314 = .ok (.getfield 130, 3) := by decide +kernel
theorem d_M_read_317 : decode prog_13_method_17_code 317 = .ok (.bipush 44, 2) := by decide +kernel
theorem d_M_read_319 : decode prog_13_method_17_code 319 = .ok (.if_icmp .eq 12, 3) := by decide +kernel
theorem d_M_read_322 : decode prog_13_method_17_code 322 = .ok (.aload_n 0, 1) := by decide +kernel
theorem d_M_read_323 : decode prog_13_method_17_code 323 = .ok (.getfield 130, 3) := by decide +kernel
theorem d_M_read_326 : decode prog_13_method_17_code 326 = .ok (.bipush 124, 2) := by decide +kernel
theorem d_M_read_328 : decode prog_13_method_17_code 328 = .ok (.if_icmp .ne 7, 3) := by decide +kernel
theorem d_M_read_331 : decode prog_13_method_17_code 331 = .ok (.iconst 1, 1) := by decide +kernel
theorem d_M_read_332 : decode prog_13_method_17_code 332 = .ok (.goto 4, 3) := by decide +kernel
theorem d_M_read_335 : decode prog_13_method_17_code 335 = .ok (.iconst 0, 1) := by decide +kernel
theorem d_M_read_336 : decode prog_13_method_17_code 336 = .ok (.istore 4, 2) := by decide +kernel
theorem d_M_read_338 : decode prog_13_method_17_code 338 = .ok (.iinc 5 1, 3) := by decide +kernel
theorem d_M_read_341 : decode prog_13_method_17_code 341 = .ok (.goto (-289), 3) := by decide +kernel
theorem d_M_read_344 : decode prog_13_method_17_code 344 = .ok (.aload_n 0, 1) := by decide +kernel
theorem d_M_read_345 : decode prog_13_method_17_code 345 = .ok (.getfield 116, 3) := by decide +kernel
theorem d_M_read_348 : decode prog_13_method_17_code 348 = .ok (.ireturn, 1) := by decide +kernel
theorem d_M_noSearch_0 : decode prog_13_method_22_code 0 = .ok (.aload_n 0, 1) := by decide +kernel
theorem d_M_noSearch_1 : decode prog_13_method_22_code 1 = .ok (.iconst 0, 1) := by decide +kernel
theorem d_M_noSearch_2 : decode prog_13_method_22_code 2 = .ok (.putfield 199, 3) := by decide +kernel
theorem d_M_noSearch_5 : decode prog_13_method_22_code 5 = .ok (.aload_n 0, 1) := by decide +kernel
theorem d_M_noSearch_6 : decode prog_13_method_22_code 6 = .ok (.iconst 0, 1) := by decide +kernel
theorem d_M_noSearch_7 : decode prog_13_method_22_code 7 = .ok (.putfield 202, 3) := by decide +kernel
theorem d_M_noSearch_10 : decode prog_13_method_22_code 10 = .ok (.aload_n 0, 1) := by decide +kernel
theorem d_M_noSearch_11 : decode prog_13_method_22_code 11 = .ok (.iconst 0, 1) := by decide +kernel
theorem d_M_noSearch_12 : decode prog_13_method_22_code 12 = .ok (.putfield 205, 3) := by decide +kernel
theorem d_M_noSearch_15 : decode prog_13_method_22_code 15 = .ok (.aload_n 0, 1) := by decide +kernel
theorem d_M_noSearch_16 : decode prog_13_method_22_code 16 = .ok (.iconst 0, 1) := by decide +kernel
theorem d_M_noSearch_17 : decode prog_13_method_22_code 17 = .ok (.putfield 208, 3) := by decide +kernel
theorem d_M_noSearch_20 : decode prog_13_method_22_code 20 = .ok (.aload_n 0, 1) := by decide +kernel
theorem d_M_noSearch_21 : decode prog_13_method_22_code 21 = .ok (.iconst 0, 1) := by decide +kernel
theorem d_M_noSearch_22 : decode prog_13_method_22_code 22 = .ok (.putfield 211, 3) := by decide +kernel
theorem d_M_noSearch_25 : decode prog_13_method_22_code 25 = .ok (.return_, 1) := by decide +kernel
theorem d_M_endOf_0 : decode prog_13_method_18_code 0 = .ok (.iload_n 1, 1) := by decide +kernel
theorem d_M_endOf_1 : decode prog_13_method_18_code 1 = .ok (.iconst 1, 1) := by decide +kernel
theorem d_M_endOf_2 : decode prog_13_method_18_code 2 = .ok (.iadd, 1) := by decide +kernel
theorem d_M_endOf_3 : decode prog_13_method_18_code 3 = .ok (.aload_n 0, 1) := by decide +kernel
theorem d_M_endOf_4 : decode prog_13_method_18_code 4 = .ok (.getfield 149, 3) := by decide +kernel
theorem d_M_endOf_7 : decode prog_13_method_18_code 7 = .ok (.if_icmp .ge 14, 3) := by decide +kernel
theorem d_M_endOf_10 : decode prog_13_method_18_code 10 = .ok (.aload_n 0, 1) := by decide +kernel
theorem d_M_endOf_11 : decode prog_13_method_18_code 11 = .ok (.getfield 20, 3) := by decide +kernel
theorem d_M_endOf_14 : decode prog_13_method_18_code 14 = .ok (.iload_n 1, 1) := by decide +kernel
theorem d_M_endOf_15 : decode prog_13_method_18_code 15 = .ok (.iconst 1, 1) := by decide +kernel
theorem d_M_endOf_16 : decode prog_13_method_18_code 16 = .ok (.iadd, 1) := by decide +kernel
theorem d_M_endOf_17 : decode prog_13_method_18_code 17 = .ok (.iaload, 1) := by decide +kernel
theorem d_M_endOf_18 : decode prog_13_method_18_code 18 = .ok (.goto 7, 3) := by decide +kernel
theorem d_M_endOf_21 : decode prog_13_method_18_code 21 = .ok (.aload_n 0, 1) := by decide +kernel
theorem d_M_endOf_22 : decode prog_13_method_18_code 22 = .ok (.getfield 137, 3) := by decide +kernel
theorem d_M_endOf_25 : decode prog_13_method_18_code 25 = .ok (.ireturn, 1) := by decide +kernel
theorem d_M_tooMuch_0 : decode prog_13_method_19_code 0 = .ok (.aload_n 0, 1) := by decide +kernel
theorem d_M_tooMuch_1 : decode prog_13_method_19_code 1 = .ok (.iload_n 1, 1) := by decide +kernel
theorem d_M_tooMuch_2 : decode prog_13_method_19_code 2 = .ok (.invokevirtual 193, 3) := by decide +kernel
theorem d_M_tooMuch_5 : decode prog_13_method_19_code 5 = .ok (.aload_n 0, 1) := by decide +kernel
theorem d_M_tooMuch_6 : decode prog_13_method_19_code 6 = .ok (.getfield 20, 3) := by decide +kernel
theorem d_M_tooMuch_9 : decode prog_13_method_19_code 9 = .ok (.iload_n 1, 1) := by decide +kernel
theorem d_M_tooMuch_10 : decode prog_13_method_19_code 10 = .ok (.iaload, 1) := by decide +kernel
theorem d_M_tooMuch_11 : decode prog_13_method_19_code 11 = .ok (.isub, 1) := by decide +kernel
theorem d_M_tooMuch_12 : decode prog_13_method_19_code 12 = .ok (.bipush 40, 2) := by decide +kernel
theorem d_M_tooMuch_14 : decode prog_13_method_19_code 14 = .ok (.if_icmp .gt 25, 3) := by decide +kernel
theorem d_M_tooMuch_17 : decode prog_13_method_19_code 17 = .ok (.aload_n 0, 1) := by decide +kernel
theorem d_M_tooMuch_18 : decode prog_13_method_19_code 18 = .ok (.getfield 26, 3) := by decide +kernel
theorem d_M_tooMuch_21 : decode prog_13_method_19_code 21 = .ok (.iload_n 1, 1) := by decide +kernel
theorem d_M_tooMuch_22 : decode prog_13_method_19_code 22 = .ok (.iaload, 1) := by decide +kernel
theorem d_M_tooMuch_23 : decode prog_13_method_19_code 23 = .ok (.bipush 8, 2) := by decide +kernel
theorem d_M_tooMuch_25 : decode prog_13_method_19_code 25 = .ok (.if_icmp .gt 14, 3) := by decide +kernel
theorem d_M_tooMuch_28 : decode prog_13_method_19_code 28 = .ok (.aload_n 0, 1) := by decide +kernel
theorem d_M_tooMuch_29 : decode prog_13_method_19_code 29 = .ok (.getfield 23, 3) := by decide +kernel
theorem d_M_tooMuch_32 : decode prog_13_method_19_code 32 = .ok (.iload_n 1, 1) := by decide +kernel
theorem d_M_tooMuch_33 : decode prog_13_method_19_code 33 = .ok (.iaload, 1) := by decide +kernel
theorem d_M_tooMuch_34 : decode prog_13_method_19_code 34 = .ok (.bipush 8, 2) := by decide +kernel
theorem d_M_tooMuch_36 : decode prog_13_method_19_code 36 = .ok (.if_icmp .le 7, 3) := by decide +kernel
theorem d_M_tooMuch_39 : decode prog_13_method_19_code 39 = .ok (.iconst 1, 1) := by decide +kernel
theorem d_M_tooMuch_40 : decode prog_13_method_19_code 40 = .ok (.goto 4, 3) := by decide +kernel
theorem d_M_tooMuch_43 : decode prog_13_method_19_code 43 = .ok (.iconst 0, 1) := by decide +kernel
theorem d_M_tooMuch_44 : decode prog_13_method_19_code 44 = .ok (.istore_n 2, 1) := by decide +kernel
theorem d_M_tooMuch_45 : decode prog_13_method_19_code 45 = .ok (.aload_n 0, 1) := by decide +kernel
theorem d_M_tooMuch_46 : decode prog_13_method_19_code 46 = .ok (.getfield 20, 3) := by decide +kernel
theorem d_M_tooMuch_49 : decode prog_13_method_19_code 49 = .ok (.iload_n 1, 1) := by decide +kernel
theorem d_M_tooMuch_50 : decode prog_13_method_19_code 50 = .ok (.iaload, 1) := by decide +kernel
theorem d_M_tooMuch_51 : decode prog_13_method_19_code 51 = .ok (.istore_n 3, 1) := by decide +kernel
theorem d_M_tooMuch_52 : decode prog_13_method_19_code 52 = .ok (.iload_n 3, 1) := by decide +kernel
theorem d_M_tooMuch_53 : decode prog_13_method_19_code 53 = .ok (.aload_n 0, 1) := by decide +kernel
theorem d_M_tooMuch_54 : decode prog_13_method_19_code 54 = .ok (.iload_n 1, 1) := by decide +kernel
theorem d_M_tooMuch_55 : decode prog_13_method_19_code 55 = .ok (.invokevirtual 193, 3) := by decide +kernel
theorem d_M_tooMuch_58 : decode prog_13_method_19_code 58 = .ok (.if_icmp .ge 29, 3) := by decide +kernel
theorem d_M_tooMuch_61 : decode prog_13_method_19_code 61 = .ok (.iload_n 2, 1) := by decide +kernel
theorem d_M_tooMuch_62 : decode prog_13_method_19_code 62 = .ok (.ifCond .ne 13, 3) := by decide +kernel
theorem d_M_tooMuch_65 : decode prog_13_method_19_code 65 = .ok (.aload_n 0, 1) := by decide +kernel
theorem d_M_tooMuch_66 : decode prog_13_method_19_code 66 = .ok (.getfield 17, 3) := by decide +kernel
theorem d_M_tooMuch_69 : decode prog_13_method_19_code 69 = .ok (.iload_n 3, 1) := by decide +kernel
theorem d_M_tooMuch_70 : decode prog_13_method_19_code 70 = .ok (.iaload, 1) := by decide +kernel
theorem d_M_tooMuch_71 : decode prog_13_method_19_code 71 = .ok (.iconst 4, 1) := by decide +kernel
theorem d_M_tooMuch_72 : decode prog_13_method_19_code 72 = .ok (.if_icmp .le 7, 3) := by decide +kernel
theorem d_M_tooMuch_75 : decode prog_13_method_19_code 75 = .ok (.iconst 1, 1) := by decide +kernel
theorem d_M_tooMuch_76 : decode prog_13_method_19_code 76 = .ok (.goto 4, 3) := by decide +kernel
theorem d_M_tooMuch_79 : decode prog_13_method_19_code 79 = .ok (.iconst 0, 1) := by decide +kernel
theorem d_M_tooMuch_80 : decode prog_13_method_19_code 80 = .ok (.istore_n 2, 1) := by decide +kernel
theorem d_M_tooMuch_81 : decode prog_13_method_19_code 81 = .ok (.iinc 3 1, 3) := by decide +kernel
theorem d_M_tooMuch_84 : decode prog_13_method_19_code 84 = .ok (.goto (-32), 3) := by decide +kernel
theorem d_M_tooMuch_87 : decode prog_13_method_19_code 87 = .ok (.iload_n 2, 1) := by decide +kernel
theorem d_M_tooMuch_88 : decode prog_13_method_19_code 88 = .ok (.ireturn, 1) := by decide +kernel
theorem d_M_addNames_0 : decode prog_13_method_20_code 0 = .ok (.aload_n 0, 1) := by decide +kernel
theorem d_M_addNames_1 : decode prog_13_method_20_code 1 = .ok (.getfield 196, 3) := by decide +kernel
theorem d_M_addNames_4 : decode prog_13_method_20_code 4 = .ok (.istore_n 1, 1) := by decide +kernel
theorem d_M_addNames_5 : decode prog_13_method_20_code 5 = .ok (.iconst 0, 1) := by decide +kernel
theorem d_M_addNames_6 : decode prog_13_method_20_code 6 = .ok (.istore_n 2, 1) := by decide +kernel
theorem d_M_addNames_7 : decode prog_13_method_20_code 7 = .ok (.iload_n 2, 1) := by decide +kernel
theorem d_M_addNames_8 : decode prog_13_method_20_code 8 = .ok (.aload_n 0, 1) := by decide +kernel
theorem d_M_addNames_9 : decode prog_13_method_20_code 9 = .ok (.getfield 137, 3) := by decide +kernel
theorem d_M_addNames_12 : decode prog_13_method_20_code 12 = .ok (.if_icmp .ge 110, 3) := by decide +kernel
theorem d_M_addNames_15 : decode prog_13_method_20_code 15 = .ok (.aload_n 0, 1) := by decide +kernel
theorem d_M_addNames_16 : decode prog_13_method_20_code 16 = .ok (.getfield 17, 3) := by decide +kernel
theorem d_M_addNames_19 : decode prog_13_method_20_code 19 = .ok (.iload_n 2, 1) := by decide +kernel
theorem d_M_addNames_20 : decode prog_13_method_20_code 20 = .ok (.iaload, 1) := by decide +kernel
theorem d_M_addNames_21 : decode prog_13_method_20_code 21 = .ok (.ifCond .lt 27, 3) := by decide +kernel
theorem d_M_addNames_24 : decode prog_13_method_20_code 24 = .ok (.aload_n 0, 1) := by decide +kernel
theorem d_M_addNames_25 : decode prog_13_method_20_code 25 = .ok (.getfield 13, 3) := by decide +kernel
theorem d_M_addNames_28 : decode prog_13_method_20_code 28 = .ok (.iload_n 2, 1) := by decide +kernel
theorem d_M_addNames_29 : decode prog_13_method_20_code 29 = .ok (.laload, 1) := by decide +kernel
theorem d_M_addNames_30 : decode prog_13_method_20_code 30 = .ok (.lconst 1, 1) := by decide +kernel
theorem d_M_addNames_31 : decode prog_13_method_20_code 31 = .ok (.lcmp, 1) := by decide +kernel
theorem d_M_addNames_32 : decode prog_13_method_20_code 32 = .ok (.ifCond .eq 16, 3) := by decide +kernel
theorem d_M_addNames_35 : decode prog_13_method_20_code 35 = .ok (.aload_n 0, 1) := by decide +kernel
theorem d_M_addNames_36 : decode prog_13_method_20_code 36 = .ok (.getfield 13, 3) := by decide +kernel
theorem d_M_addNames_39 : decode prog_13_method_20_code 39 = .ok (.iload_n 2, 1) := by decide +kernel
theorem d_M_addNames_40 : decode prog_13_method_20_code 40 = .ok (.laload, 1) := by decide +kernel
theorem d_M_addNames_41 : decode prog_13_method_20_code 41 = .ok (.ldc2_w 168, 3) := by decide +kernel
theorem d_M_addNames_44 : decode prog_13_method_20_code 44 = .ok (.lcmp, 1) := by decide +kernel
theorem d_M_addNames_45 : decode prog_13_method_20_code 45 = .ok (.ifCond .ne 7, 3) := by decide +kernel
theorem d_M_addNames_48 : decode prog_13_method_20_code 48 = .ok (.iconst 1, 1) := by decide +kernel
theorem d_M_addNames_49 : decode prog_13_method_20_code 49 = .ok (.goto 4, 3) := by decide +kernel
theorem d_M_addNames_52 : decode prog_13_method_20_code 52 = .ok (.iconst 0, 1) := by decide +kernel
theorem d_M_addNames_53 : decode prog_13_method_20_code 53 = .ok (.istore_n 3, 1) := by decide +kernel
theorem d_M_addNames_54 : decode prog_13_method_20_code 54 = .ok (.iconst 0, 1) := by decide +kernel
theorem d_M_addNames_55 : decode prog_13_method_20_code 55 = .ok (.istore 4, 2) := by decide +kernel
theorem d_M_addNames_57 : decode prog_13_method_20_code 57 = .ok (.iload 4, 2) := by decide +kernel
theorem d_M_addNames_59 : decode prog_13_method_20_code 59 = .ok (.iload_n 1, 1) := by decide +kernel
theorem d_M_addNames_60 : decode prog_13_method_20_code 60 = .ok (.if_icmp .ge 36, 3) := by decide +kernel
theorem d_M_addNames_63 : decode prog_13_method_20_code 63 = .ok (.iload_n 3, 1) := by decide +kernel
theorem d_M_addNames_64 : decode prog_13_method_20_code 64 = .ok (.ifCond .ne 32, 3) := by decide +kernel
theorem d_M_addNames_67 : decode prog_13_method_20_code 67 = .ok (.aload_n 0, 1) := by decide +kernel
theorem d_M_addNames_68 : decode prog_13_method_20_code 68 = .ok (.getfield 62, 3) := by decide +kernel
theorem d_M_addNames_71 : decode prog_13_method_20_code 71 = .ok (.iload 4, 2) := by decide +kernel
theorem d_M_addNames_73 : decode prog_13_method_20_code 73 = .ok (.laload, 1) := by decide +kernel
theorem d_M_addNames_74 : decode prog_13_method_20_code 74 = .ok (.aload_n 0, 1) := by decide +kernel
theorem d_M_addNames_75 : decode prog_13_method_20_code 75 = .ok (.getfield 13, 3) := by decide +kernel
theorem d_M_addNames_78 : decode prog_13_method_20_code 78 = .ok (.iload_n 2, 1) := by decide +kernel
theorem d_M_addNames_79 : decode prog_13_method_20_code 79 = .ok (.laload, 1) := by decide +kernel
theorem d_M_addNames_80 : decode prog_13_method_20_code 80 = .ok (.lcmp, 1) := by decide +kernel
theorem d_M_addNames_81 : decode prog_13_method_20_code 81 = .ok (.ifCond .ne 7, 3) := by decide +kernel
theorem d_M_addNames_84 : decode prog_13_method_20_code 84 = .ok (.iconst 1, 1) := by decide +kernel
theorem d_M_addNames_85 : decode prog_13_method_20_code 85 = .ok (.goto 4, 3) := by decide +kernel
theorem d_M_addNames_88 : decode prog_13_method_20_code 88 = .ok (.iconst 0, 1) := by decide +kernel
theorem d_M_addNames_89 : decode prog_13_method_20_code 89 = .ok (.istore_n 3, 1) := by decide +kernel
theorem d_M_addNames_90 : decode prog_13_method_20_code 90 = .ok (.iinc 4 1, 3) := by decide +kernel
theorem d_M_addNames_93 : decode prog_13_method_20_code 93 = .ok (.goto (-36), 3) := by decide +kernel
theorem d_M_addNames_96 : decode prog_13_method_20_code 96 = .ok (.iload_n 3, 1) := by decide +kernel
theorem d_M_addNames_97 : decode prog_13_method_20_code 97 = .ok (.ifCond .ne 19, 3) := by decide +kernel
theorem d_M_addNames_100 : decode prog_13_method_20_code 100 = .ok (.aload_n 0, 1) := by decide +kernel
theorem d_M_addNames_101 : decode prog_13_method_20_code 101 = .ok (.getfield 62, 3) := by decide +kernel
theorem d_M_addNames_104 : decode prog_13_method_20_code 104 = .ok (.iload_n 1, 1) := by decide +kernel
theorem d_M_addNames_105 : decode prog_13_method_20_code 105 = .ok (.aload_n 0, 1) := by decide +kernel
theorem d_M_addNames_106 : decode prog_13_method_20_code 106 = .ok (.getfield 13, 3) := by decide +kernel
theorem d_M_addNames_109 : decode prog_13_method_20_code 109 = .ok (.iload_n 2, 1) := by decide +kernel
theorem d_M_addNames_110 : decode prog_13_method_20_code 110 = .ok (.laload, 1) := by decide +kernel
theorem d_M_addNames_111 : decode prog_13_method_20_code 111 = .ok (.lastore, 1) := by decide +kernel
theorem d_M_addNames_112 : decode prog_13_method_20_code 112 = .ok (.iload_n 1, 1) := by decide +kernel
theorem d_M_addNames_113 : decode prog_13_method_20_code 113 = .ok (.iconst 1, 1) := by decide +kernel
theorem d_M_addNames_114 : decode prog_13_method_20_code 114 = .ok (.iadd, 1) := by decide +kernel
theorem d_M_addNames_115 : decode prog_13_method_20_code 115 = .ok (.istore_n 1, 1) := by decide +kernel
theorem d_M_addNames_116 : decode prog_13_method_20_code 116 = .ok (.iinc 2 1, 3) := by decide +kernel
theorem d_M_addNames_119 : decode prog_13_method_20_code 119 = .ok (.goto (-112), 3) := by decide +kernel
theorem d_M_addNames_122 : decode prog_13_method_20_code 122 = .ok (.iload_n 1, 1) := by decide +kernel
theorem d_M_addNames_123 : decode prog_13_method_20_code 123 = .ok (.ireturn, 1) := by decide +kernel
theorem d_M_keep_0 : decode prog_13_method_21_code 0 = .ok (.aload_n 0, 1) := by decide +kernel
theorem d_M_keep_1 : decode prog_13_method_21_code 1 = .ok (.getfield 53, 3) := by decide +kernel
theorem d_M_keep_4 : decode prog_13_method_21_code 4 = .ok (.iload_n 3, 1) := by decide +kernel
theorem d_M_keep_5 : decode prog_13_method_21_code 5 = .ok (.aload_n 0, 1) := by decide +kernel
theorem d_M_keep_6 : decode prog_13_method_21_code 6 = .ok (.iload_n 1, 1) := by decide +kernel
theorem d_M_keep_7 : decode prog_13_method_21_code 7 = .ok (.invokevirtual 193, 3) := by decide +kernel
theorem d_M_keep_10 : decode prog_13_method_21_code 10 = .ok (.aload_n 0, 1) := by decide +kernel
theorem d_M_keep_11 : decode prog_13_method_21_code 11 = .ok (.getfield 20, 3) := by decide +kernel
theorem d_M_keep_14 : decode prog_13_method_21_code 14 = .ok (.iload_n 1, 1) := by decide +kernel
theorem d_M_keep_15 : decode prog_13_method_21_code 15 = .ok (.iaload, 1) := by decide +kernel
theorem d_M_keep_16 : decode prog_13_method_21_code 16 = .ok (.isub, 1) := by decide +kernel
theorem d_M_keep_17 : decode prog_13_method_21_code 17 = .ok (.iastore, 1) := by decide +kernel
theorem d_M_keep_18 : decode prog_13_method_21_code 18 = .ok (.iconst 0, 1) := by decide +kernel
theorem d_M_keep_19 : decode prog_13_method_21_code 19 = .ok (.istore 4, 2) := by decide +kernel
theorem d_M_keep_21 : decode prog_13_method_21_code 21 = .ok (.iload 4, 2) := by decide +kernel
theorem d_M_keep_23 : decode prog_13_method_21_code 23 = .ok (.aload_n 0, 1) := by decide +kernel
theorem d_M_keep_24 : decode prog_13_method_21_code 24 = .ok (.getfield 53, 3) := by decide +kernel
theorem d_M_keep_27 : decode prog_13_method_21_code 27 = .ok (.iload_n 3, 1) := by decide +kernel
theorem d_M_keep_28 : decode prog_13_method_21_code 28 = .ok (.iaload, 1) := by decide +kernel
theorem d_M_keep_29 : decode prog_13_method_21_code 29 = .ok (.if_icmp .ge 61, 3) := by decide +kernel
theorem d_M_keep_32 : decode prog_13_method_21_code 32 = .ok (.aload_n 0, 1) := by decide +kernel
theorem d_M_keep_33 : decode prog_13_method_21_code 33 = .ok (.getfield 47, 3) := by decide +kernel
theorem d_M_keep_36 : decode prog_13_method_21_code 36 = .ok (.bipush 40, 2) := by decide +kernel
theorem d_M_keep_38 : decode prog_13_method_21_code 38 = .ok (.iload_n 3, 1) := by decide +kernel
theorem d_M_keep_39 : decode prog_13_method_21_code 39 = .ok (.imul, 1) := by decide +kernel
theorem d_M_keep_40 : decode prog_13_method_21_code 40 = .ok (.iload 4, 2) := by decide +kernel
theorem d_M_keep_42 : decode prog_13_method_21_code 42 = .ok (.iadd, 1) := by decide +kernel
theorem d_M_keep_43 : decode prog_13_method_21_code 43 = .ok (.aload_n 0, 1) := by decide +kernel
theorem d_M_keep_44 : decode prog_13_method_21_code 44 = .ok (.getfield 13, 3) := by decide +kernel
theorem d_M_keep_47 : decode prog_13_method_21_code 47 = .ok (.aload_n 0, 1) := by decide +kernel
theorem d_M_keep_48 : decode prog_13_method_21_code 48 = .ok (.getfield 20, 3) := by decide +kernel
theorem d_M_keep_51 : decode prog_13_method_21_code 51 = .ok (.iload_n 1, 1) := by decide +kernel
theorem d_M_keep_52 : decode prog_13_method_21_code 52 = .ok (.iaload, 1) := by decide +kernel
theorem d_M_keep_53 : decode prog_13_method_21_code 53 = .ok (.iload 4, 2) := by decide +kernel
theorem d_M_keep_55 : decode prog_13_method_21_code 55 = .ok (.iadd, 1) := by decide +kernel
theorem d_M_keep_56 : decode prog_13_method_21_code 56 = .ok (.laload, 1) := by decide +kernel
theorem d_M_keep_57 : decode prog_13_method_21_code 57 = .ok (.lastore, 1) := by decide +kernel
theorem d_M_keep_58 : decode prog_13_method_21_code 58 = .ok (.aload_n 0, 1) := by decide +kernel
theorem d_M_keep_59 : decode prog_13_method_21_code 59 = .ok (.getfield 50, 3) := by decide +kernel
theorem d_M_keep_62 : decode prog_13_method_21_code 62 = .ok (.bipush 40, 2) := by decide +kernel
theorem d_M_keep_64 : decode prog_13_method_21_code 64 = .ok (.iload_n 3, 1) := by decide +kernel
theorem d_M_keep_65 : decode prog_13_method_21_code 65 = .ok (.imul, 1) := by decide +kernel
theorem d_M_keep_66 : decode prog_13_method_21_code 66 = .ok (.iload 4, 2) := by decide +kernel
theorem d_M_keep_68 : decode prog_13_method_21_code 68 = .ok (.iadd, 1) := by decide +kernel
theorem d_M_keep_69 : decode prog_13_method_21_code 69 = .ok (.aload_n 0, 1) := by decide +kernel
theorem d_M_keep_70 : decode prog_13_method_21_code 70 = .ok (.getfield 17, 3) := by decide +kernel
theorem d_M_keep_73 : decode prog_13_method_21_code 73 = .ok (.aload_n 0, 1) := by decide +kernel
theorem d_M_keep_74 : decode prog_13_method_21_code 74 = .ok (.getfield 20, 3) := by decide +kernel
theorem d_M_keep_77 : decode prog_13_method_21_code 77 = .ok (.iload_n 1, 1) := by decide +kernel
theorem d_M_keep_78 : decode prog_13_method_21_code 78 = .ok (.iaload, 1) := by decide +kernel
theorem d_M_keep_79 : decode prog_13_method_21_code 79 = .ok (.iload 4, 2) := by decide +kernel
theorem d_M_keep_81 : decode prog_13_method_21_code 81 = .ok (.iadd, 1) := by decide +kernel
theorem d_M_keep_82 : decode prog_13_method_21_code 82 = .ok (.iaload, 1) := by decide +kernel
theorem d_M_keep_83 : decode prog_13_method_21_code 83 = .ok (.iastore, 1) := by decide +kernel
theorem d_M_keep_84 : decode prog_13_method_21_code 84 = .ok (.iinc 4 1, 3) := by decide +kernel
theorem d_M_keep_87 : decode prog_13_method_21_code 87 = .ok (.goto (-66), 3) := by decide +kernel
theorem d_M_keep_90 : decode prog_13_method_21_code 90 = .ok (.aload_n 0, 1) := by decide +kernel
theorem d_M_keep_91 : decode prog_13_method_21_code 91 = .ok (.getfield 56, 3) := by decide +kernel
theorem d_M_keep_94 : decode prog_13_method_21_code 94 = .ok (.iload_n 3, 1) := by decide +kernel
theorem d_M_keep_95 : decode prog_13_method_21_code 95 = .ok (.aload_n 0, 1) := by decide +kernel
theorem d_M_keep_96 : decode prog_13_method_21_code 96 = .ok (.getfield 23, 3) := by decide +kernel
theorem d_M_keep_99 : decode prog_13_method_21_code 99 = .ok (.iload_n 1, 1) := by decide +kernel
theorem d_M_keep_100 : decode prog_13_method_21_code 100 = .ok (.iaload, 1) := by decide +kernel
theorem d_M_keep_101 : decode prog_13_method_21_code 101 = .ok (.iastore, 1) := by decide +kernel
theorem d_M_keep_102 : decode prog_13_method_21_code 102 = .ok (.iconst 0, 1) := by decide +kernel
theorem d_M_keep_103 : decode prog_13_method_21_code 103 = .ok (.istore 4, 2) := by decide +kernel
theorem d_M_keep_105 : decode prog_13_method_21_code 105 = .ok (.iload 4, 2) := by decide +kernel
theorem d_M_keep_107 : decode prog_13_method_21_code 107 = .ok (.aload_n 0, 1) := by decide +kernel
theorem d_M_keep_108 : decode prog_13_method_21_code 108 = .ok (.getfield 56, 3) := by decide +kernel
theorem d_M_keep_111 : decode prog_13_method_21_code 111 = .ok (.iload_n 3, 1) := by decide +kernel
theorem d_M_keep_112 : decode prog_13_method_21_code 112 = .ok (.iaload, 1) := by decide +kernel
theorem d_M_keep_113 : decode prog_13_method_21_code 113 = .ok (.if_icmp .ge 42, 3) := by decide +kernel
theorem d_M_keep_116 : decode prog_13_method_21_code 116 = .ok (.aload_n 0, 1) := by decide +kernel
theorem d_M_keep_117 : decode prog_13_method_21_code 117 = .ok (.getfield 59, 3) := by decide +kernel
theorem d_M_keep_120 : decode prog_13_method_21_code 120 = .ok (.bipush 8, 2) := by decide +kernel
theorem d_M_keep_122 : decode prog_13_method_21_code 122 = .ok (.iload_n 3, 1) := by decide +kernel
theorem d_M_keep_123 : decode prog_13_method_21_code 123 = .ok (.imul, 1) := by decide +kernel
theorem d_M_keep_124 : decode prog_13_method_21_code 124 = .ok (.iload 4, 2) := by decide +kernel
theorem d_M_keep_126 : decode prog_13_method_21_code 126 = .ok (.iadd, 1) := by decide +kernel
theorem d_M_keep_127 : decode prog_13_method_21_code 127 = .ok (.bipush 40, 2) := by decide +kernel
theorem d_M_keep_129 : decode prog_13_method_21_code 129 = .ok (.iload_n 3, 1) := by decide +kernel
theorem d_M_keep_130 : decode prog_13_method_21_code 130 = .ok (.imul, 1) := by decide +kernel
theorem d_M_keep_131 : decode prog_13_method_21_code 131 = .ok (.aload_n 0, 1) := by decide +kernel
theorem d_M_keep_132 : decode prog_13_method_21_code 132 = .ok (.getfield 29, 3) := by decide +kernel
theorem d_M_keep_135 : decode prog_13_method_21_code 135 = .ok (.iload_n 2, 1) := by decide +kernel
theorem d_M_keep_136 : decode prog_13_method_21_code 136 = .ok (.iload 4, 2) := by decide +kernel
theorem d_M_keep_138 : decode prog_13_method_21_code 138 = .ok (.iadd, 1) := by decide +kernel
theorem d_M_keep_139 : decode prog_13_method_21_code 139 = .ok (.iaload, 1) := by decide +kernel
theorem d_M_keep_140 : decode prog_13_method_21_code 140 = .ok (.iadd, 1) := by decide +kernel
theorem d_M_keep_141 : decode prog_13_method_21_code 141 = .ok (.aload_n 0, 1) := by decide +kernel
theorem d_M_keep_142 : decode prog_13_method_21_code 142 = .ok (.getfield 20, 3) := by decide +kernel
theorem d_M_keep_145 : decode prog_13_method_21_code 145 = .ok (.iload_n 1, 1) := by decide +kernel
theorem d_M_keep_146 : decode prog_13_method_21_code 146 = .ok (.iaload, 1) := by decide +kernel
theorem d_M_keep_147 : decode prog_13_method_21_code 147 = .ok (.isub, 1) := by decide +kernel
theorem d_M_keep_148 : decode prog_13_method_21_code 148 = .ok (.iastore, 1) := by decide +kernel
theorem d_M_keep_149 : decode prog_13_method_21_code 149 = .ok (.iinc 4 1, 3) := by decide +kernel
theorem d_M_keep_152 : decode prog_13_method_21_code 152 = .ok (.goto (-47), 3) := by decide +kernel
theorem d_M_keep_155 : decode prog_13_method_21_code 155 = .ok (.return_, 1) := by decide +kernel
theorem d_M_consult_0 : decode prog_13_method_23_code 0 = .ok (.aload_n 0, 1) := by decide +kernel
theorem d_M_consult_1 : decode prog_13_method_23_code 1 = .ok (.iconst 0, 1) := by decide +kernel
theorem d_M_consult_2 : decode prog_13_method_23_code 2 = .ok (.invokevirtual 214, 3) := by decide +kernel
theorem d_M_consult_5 : decode prog_13_method_23_code 5 = .ok (.istore_n 1, 1) := by decide +kernel
theorem d_M_consult_6 : decode prog_13_method_23_code 6 = .ok (.aload_n 0, 1) := by decide +kernel
theorem d_M_consult_7 : decode prog_13_method_23_code 7 = .ok (.iconst 0, 1) := by decide +kernel
theorem d_M_consult_8 : decode prog_13_method_23_code 8 = .ok (.putfield 116, 3) := by decide +kernel
theorem d_M_consult_11 : decode prog_13_method_23_code 11 = .ok (.aload_n 0, 1) := by decide +kernel
theorem d_M_consult_12 : decode prog_13_method_23_code 12 = .ok (.invokevirtual 218, 3) := by decide +kernel
theorem d_M_consult_15 : decode prog_13_method_23_code 15 = .ok (.iload_n 1, 1) := by decide +kernel
theorem d_M_consult_16 : decode prog_13_method_23_code 16 = .ok (.ifCond .lt 7, 3) := by decide +kernel
theorem d_M_consult_19 : decode prog_13_method_23_code 19 = .ok (.iconst (-1), 1) := by decide +kernel
theorem d_M_consult_20 : decode prog_13_method_23_code 20 = .ok (.iload_n 1, 1) := by decide +kernel
theorem d_M_consult_21 : decode prog_13_method_23_code 21 = .ok (.isub, 1) := by decide +kernel
theorem d_M_consult_22 : decode prog_13_method_23_code 22 = .ok (.ireturn, 1) := by decide +kernel
theorem d_M_consult_23 : decode prog_13_method_23_code 23 = .ok (.aload_n 0, 1) := by decide +kernel
theorem d_M_consult_24 : decode prog_13_method_23_code 24 = .ok (.getfield 221, 3) := by decide +kernel
theorem d_M_consult_27 : decode prog_13_method_23_code 27 = .ok (.aload_n 0, 1) := by decide +kernel
theorem d_M_consult_28 : decode prog_13_method_23_code 28 = .ok (.getfield 149, 3) := by decide +kernel
theorem d_M_consult_31 : decode prog_13_method_23_code 31 = .ok (.iadd, 1) := by decide +kernel
theorem d_M_consult_32 : decode prog_13_method_23_code 32 = .ok (.bipush 24, 2) := by decide +kernel
theorem d_M_consult_34 : decode prog_13_method_23_code 34 = .ok (.if_icmp .le 7, 3) := by decide +kernel
theorem d_M_consult_37 : decode prog_13_method_23_code 37 = .ok (.iconst 1, 1) := by decide +kernel
theorem d_M_consult_38 : decode prog_13_method_23_code 38 = .ok (.goto 4, 3) := by decide +kernel
theorem d_M_consult_41 : decode prog_13_method_23_code 41 = .ok (.iconst 0, 1) := by decide +kernel
theorem d_M_consult_42 : decode prog_13_method_23_code 42 = .ok (.istore_n 2, 1) := by decide +kernel
theorem d_M_consult_43 : decode prog_13_method_23_code 43 = .ok (.iconst 0, 1) := by decide +kernel
theorem d_M_consult_44 : decode prog_13_method_23_code 44 = .ok (.istore_n 3, 1) := by decide +kernel
theorem d_M_consult_45 : decode prog_13_method_23_code 45 = .ok (.iload_n 3, 1) := by decide +kernel
theorem d_M_consult_46 : decode prog_13_method_23_code 46 = .ok (.aload_n 0, 1) := by decide +kernel
theorem d_M_consult_47 : decode prog_13_method_23_code 47 = .ok (.getfield 149, 3) := by decide +kernel
theorem d_M_consult_50 : decode prog_13_method_23_code 50 = .ok (.if_icmp .ge 27, 3) := by decide +kernel
theorem d_M_consult_53 : decode prog_13_method_23_code 53 = .ok (.iload_n 2, 1) := by decide +kernel
theorem d_M_consult_54 : decode prog_13_method_23_code 54 = .ok (.ifCond .ne 11, 3) := by decide +kernel
theorem d_M_consult_57 : decode prog_13_method_23_code 57 = .ok (.aload_n 0, 1) := by decide +kernel
theorem d_M_consult_58 : decode prog_13_method_23_code 58 = .ok (.iload_n 3, 1) := by decide +kernel
theorem d_M_consult_59 : decode prog_13_method_23_code 59 = .ok (.invokevirtual 224, 3) := by decide +kernel
theorem d_M_consult_62 : decode prog_13_method_23_code 62 = .ok (.ifCond .eq 7, 3) := by decide +kernel
theorem d_M_consult_65 : decode prog_13_method_23_code 65 = .ok (.iconst 1, 1) := by decide +kernel
theorem d_M_consult_66 : decode prog_13_method_23_code 66 = .ok (.goto 4, 3) := by decide +kernel
theorem d_M_consult_69 : decode prog_13_method_23_code 69 = .ok (.iconst 0, 1) := by decide +kernel
theorem d_M_consult_70 : decode prog_13_method_23_code 70 = .ok (.istore_n 2, 1) := by decide +kernel
theorem d_M_consult_71 : decode prog_13_method_23_code 71 = .ok (.iinc 3 1, 3) := by decide +kernel
theorem d_M_consult_74 : decode prog_13_method_23_code 74 = .ok (.goto (-29), 3) := by decide +kernel
theorem d_M_consult_77 : decode prog_13_method_23_code 77 = .ok (.aload_n 0, 1) := by decide +kernel
theorem d_M_consult_78 : decode prog_13_method_23_code 78 = .ok (.invokevirtual 227, 3) := by decide +kernel
theorem d_M_consult_81 : decode prog_13_method_23_code 81 = .ok (.istore_n 3, 1) := by decide +kernel
theorem d_M_consult_82 : decode prog_13_method_23_code 82 = .ok (.iload_n 2, 1) := by decide +kernel
theorem d_M_consult_83 : decode prog_13_method_23_code 83 = .ok (.ifCond .ne 9, 3) := by decide +kernel
theorem d_M_consult_86 : decode prog_13_method_23_code 86 = .ok (.iload_n 3, 1) := by decide +kernel
theorem d_M_consult_87 : decode prog_13_method_23_code 87 = .ok (.bipush 32, 2) := by decide +kernel
theorem d_M_consult_89 : decode prog_13_method_23_code 89 = .ok (.if_icmp .le 7, 3) := by decide +kernel
theorem d_M_consult_92 : decode prog_13_method_23_code 92 = .ok (.sipush (-1000), 3) := by decide +kernel
theorem d_M_consult_95 : decode prog_13_method_23_code 95 = .ok (.ireturn, 1) := by decide +kernel
theorem d_M_consult_96 : decode prog_13_method_23_code 96 = .ok (.aload_n 0, 1) := by decide +kernel
theorem d_M_consult_97 : decode prog_13_method_23_code 97 = .ok (.iload_n 3, 1) := by decide +kernel
theorem d_M_consult_98 : decode prog_13_method_23_code 98 = .ok (.putfield 196, 3) := by decide +kernel
theorem d_M_consult_101 : decode prog_13_method_23_code 101 = .ok (.iconst 0, 1) := by decide +kernel
theorem d_M_consult_102 : decode prog_13_method_23_code 102 = .ok (.istore 4, 2) := by decide +kernel
theorem d_M_consult_104 : decode prog_13_method_23_code 104 = .ok (.iconst 0, 1) := by decide +kernel
theorem d_M_consult_105 : decode prog_13_method_23_code 105 = .ok (.istore 5, 2) := by decide +kernel
theorem d_M_consult_107 : decode prog_13_method_23_code 107 = .ok (.iload 5, 2) := by decide +kernel
theorem d_M_consult_109 : decode prog_13_method_23_code 109 = .ok (.aload_n 0, 1) := by decide +kernel
theorem d_M_consult_110 : decode prog_13_method_23_code 110 = .ok (.getfield 149, 3) := by decide +kernel
theorem d_M_consult_113 : decode prog_13_method_23_code 113 = .ok (.if_icmp .ge 43, 3) := by decide +kernel
theorem d_M_consult_116 : decode prog_13_method_23_code 116 = .ok (.aload_n 0, 1) := by decide +kernel
theorem d_M_consult_117 : decode prog_13_method_23_code 117 = .ok (.iload 5, 2) := by decide +kernel
theorem d_M_consult_119 : decode prog_13_method_23_code 119 = .ok (.iload 4, 2) := by decide +kernel
theorem d_M_consult_121 : decode prog_13_method_23_code 121 = .ok (.aload_n 0, 1) := by decide +kernel
theorem d_M_consult_122 : decode prog_13_method_23_code 122 = .ok (.getfield 221, 3) := by decide +kernel
theorem d_M_consult_125 : decode prog_13_method_23_code 125 = .ok (.invokevirtual 231, 3) := by decide +kernel
theorem d_M_consult_128 : decode prog_13_method_23_code 128 = .ok (.iload 4, 2) := by decide +kernel
theorem d_M_consult_130 : decode prog_13_method_23_code 130 = .ok (.aload_n 0, 1) := by decide +kernel
theorem d_M_consult_131 : decode prog_13_method_23_code 131 = .ok (.getfield 23, 3) := by decide +kernel
theorem d_M_consult_134 : decode prog_13_method_23_code 134 = .ok (.iload 5, 2) := by decide +kernel
theorem d_M_consult_136 : decode prog_13_method_23_code 136 = .ok (.iaload, 1) := by decide +kernel
theorem d_M_consult_137 : decode prog_13_method_23_code 137 = .ok (.iadd, 1) := by decide +kernel
theorem d_M_consult_138 : decode prog_13_method_23_code 138 = .ok (.istore 4, 2) := by decide +kernel
theorem d_M_consult_140 : decode prog_13_method_23_code 140 = .ok (.aload_n 0, 1) := by decide +kernel
theorem d_M_consult_141 : decode prog_13_method_23_code 141 = .ok (.aload_n 0, 1) := by decide +kernel
theorem d_M_consult_142 : decode prog_13_method_23_code 142 = .ok (.getfield 221, 3) := by decide +kernel
theorem d_M_consult_145 : decode prog_13_method_23_code 145 = .ok (.iconst 1, 1) := by decide +kernel
theorem d_M_consult_146 : decode prog_13_method_23_code 146 = .ok (.iadd, 1) := by decide +kernel
theorem d_M_consult_147 : decode prog_13_method_23_code 147 = .ok (.putfield 221, 3) := by decide +kernel
theorem d_M_consult_150 : decode prog_13_method_23_code 150 = .ok (.iinc 5 1, 3) := by decide +kernel
theorem d_M_consult_153 : decode prog_13_method_23_code 153 = .ok (.goto (-46), 3) := by decide +kernel
theorem d_M_consult_156 : decode prog_13_method_23_code 156 = .ok (.aload_n 0, 1) := by decide +kernel
theorem d_M_consult_157 : decode prog_13_method_23_code 157 = .ok (.getfield 149, 3) := by decide +kernel
theorem d_M_consult_160 : decode prog_13_method_23_code 160 = .ok (.ireturn, 1) := by decide +kernel
theorem d_M_clearFrame_0 : decode prog_13_method_32_code 0 = .ok (.iconst 0, 1) := by decide +kernel
theorem d_M_clearFrame_1 : decode prog_13_method_32_code 1 = .ok (.istore_n 2, 1) := by decide +kernel
theorem d_M_clearFrame_2 : decode prog_13_method_32_code 2 = .ok (.iload_n 2, 1) := by decide +kernel
theorem d_M_clearFrame_3 : decode prog_13_method_32_code 3 = .ok (.bipush 8, 2) := by decide +kernel
theorem d_M_clearFrame_5 : decode prog_13_method_32_code 5 = .ok (.if_icmp .ge 21, 3) := by decide +kernel
theorem d_M_clearFrame_8 : decode prog_13_method_32_code 8 = .ok (.aload_n 0, 1) := by decide +kernel
theorem d_M_clearFrame_9 : decode prog_13_method_32_code 9 = .ok (.getfield 89, 3) := by decide +kernel
theorem d_M_clearFrame_12 : decode prog_13_method_32_code 12 = .ok (.bipush 8, 2) := by decide +kernel
theorem d_M_clearFrame_14 : decode prog_13_method_32_code 14 = .ok (.iload_n 1, 1) := by decide +kernel
theorem d_M_clearFrame_15 : decode prog_13_method_32_code 15 = .ok (.imul, 1) := by decide +kernel
theorem d_M_clearFrame_16 : decode prog_13_method_32_code 16 = .ok (.iload_n 2, 1) := by decide +kernel
theorem d_M_clearFrame_17 : decode prog_13_method_32_code 17 = .ok (.iadd, 1) := by decide +kernel
theorem d_M_clearFrame_18 : decode prog_13_method_32_code 18 = .ok (.iconst (-1), 1) := by decide +kernel
theorem d_M_clearFrame_19 : decode prog_13_method_32_code 19 = .ok (.iastore, 1) := by decide +kernel
theorem d_M_clearFrame_20 : decode prog_13_method_32_code 20 = .ok (.iinc 2 1, 3) := by decide +kernel
theorem d_M_clearFrame_23 : decode prog_13_method_32_code 23 = .ok (.goto (-21), 3) := by decide +kernel
theorem d_M_clearFrame_26 : decode prog_13_method_32_code 26 = .ok (.return_, 1) := by decide +kernel
theorem d_M_prepend_0 : decode prog_13_method_33_code 0 = .ok (.aload_n 0, 1) := by decide +kernel
theorem d_M_prepend_1 : decode prog_13_method_33_code 1 = .ok (.getfield 56, 3) := by decide +kernel
theorem d_M_prepend_4 : decode prog_13_method_33_code 4 = .ok (.iload_n 1, 1) := by decide +kernel
theorem d_M_prepend_5 : decode prog_13_method_33_code 5 = .ok (.iaload, 1) := by decide +kernel
theorem d_M_prepend_6 : decode prog_13_method_33_code 6 = .ok (.iconst 1, 1) := by decide +kernel
theorem d_M_prepend_7 : decode prog_13_method_33_code 7 = .ok (.isub, 1) := by decide +kernel
theorem d_M_prepend_8 : decode prog_13_method_33_code 8 = .ok (.istore 4, 2) := by decide +kernel
theorem d_M_prepend_10 : decode prog_13_method_33_code 10 = .ok (.iload 4, 2) := by decide +kernel
theorem d_M_prepend_12 : decode prog_13_method_33_code 12 = .ok (.ifCond .lt 60, 3) := by decide +kernel
theorem d_M_prepend_15 : decode prog_13_method_33_code 15 = .ok (.aload_n 0, 1) := by decide +kernel
theorem d_M_prepend_16 : decode prog_13_method_33_code 16 = .ok (.getfield 80, 3) := by decide +kernel
theorem d_M_prepend_19 : decode prog_13_method_33_code 19 = .ok (.aload_n 0, 1) := by decide +kernel
theorem d_M_prepend_20 : decode prog_13_method_33_code 20 = .ok (.getfield 211, 3) := by decide +kernel
theorem d_M_prepend_23 : decode prog_13_method_33_code 23 = .ok (.aload_n 0, 1) := by decide +kernel
theorem d_M_prepend_24 : decode prog_13_method_33_code 24 = .ok (.getfield 59, 3) := by decide +kernel
theorem d_M_prepend_27 : decode prog_13_method_33_code 27 = .ok (.bipush 8, 2) := by decide +kernel
theorem d_M_prepend_29 : decode prog_13_method_33_code 29 = .ok (.iload_n 1, 1) := by decide +kernel
theorem d_M_prepend_30 : decode prog_13_method_33_code 30 = .ok (.imul, 1) := by decide +kernel
theorem d_M_prepend_31 : decode prog_13_method_33_code 31 = .ok (.iload 4, 2) := by decide +kernel
theorem d_M_prepend_33 : decode prog_13_method_33_code 33 = .ok (.iadd, 1) := by decide +kernel
theorem d_M_prepend_34 : decode prog_13_method_33_code 34 = .ok (.iaload, 1) := by decide +kernel
theorem d_M_prepend_35 : decode prog_13_method_33_code 35 = .ok (.iastore, 1) := by decide +kernel
theorem d_M_prepend_36 : decode prog_13_method_33_code 36 = .ok (.aload_n 0, 1) := by decide +kernel
theorem d_M_prepend_37 : decode prog_13_method_33_code 37 = .ok (.getfield 83, 3) := by decide +kernel
theorem d_M_prepend_40 : decode prog_13_method_33_code 40 = .ok (.aload_n 0, 1) := by decide +kernel
theorem d_M_prepend_41 : decode prog_13_method_33_code 41 = .ok (.getfield 211, 3) := by decide +kernel
theorem d_M_prepend_44 : decode prog_13_method_33_code 44 = .ok (.iload_n 2, 1) := by decide +kernel
theorem d_M_prepend_45 : decode prog_13_method_33_code 45 = .ok (.iastore, 1) := by decide +kernel
theorem d_M_prepend_46 : decode prog_13_method_33_code 46 = .ok (.aload_n 0, 1) := by decide +kernel
theorem d_M_prepend_47 : decode prog_13_method_33_code 47 = .ok (.getfield 86, 3) := by decide +kernel
theorem d_M_prepend_50 : decode prog_13_method_33_code 50 = .ok (.aload_n 0, 1) := by decide +kernel
theorem d_M_prepend_51 : decode prog_13_method_33_code 51 = .ok (.getfield 211, 3) := by decide +kernel
theorem d_M_prepend_54 : decode prog_13_method_33_code 54 = .ok (.iload_n 3, 1) := by decide +kernel
theorem d_M_prepend_55 : decode prog_13_method_33_code 55 = .ok (.iastore, 1) := by decide +kernel
theorem d_M_prepend_56 : decode prog_13_method_33_code 56 = .ok (.aload_n 0, 1) := by decide +kernel
theorem d_M_prepend_57 : decode prog_13_method_33_code 57 = .ok (.aload_n 0, 1) := by decide +kernel
theorem d_M_prepend_58 : decode prog_13_method_33_code 58 = .ok (.getfield 211, 3) := by decide +kernel
theorem d_M_prepend_61 : decode prog_13_method_33_code 61 = .ok (.iconst 1, 1) := by decide +kernel
theorem d_M_prepend_62 : decode prog_13_method_33_code 62 = .ok (.iadd, 1) := by decide +kernel
theorem d_M_prepend_63 : decode prog_13_method_33_code 63 = .ok (.putfield 211, 3) := by decide +kernel
theorem d_M_prepend_66 : decode prog_13_method_33_code 66 = .ok (.iinc 4 (-1), 3) := by decide +kernel
theorem d_M_prepend_69 : decode prog_13_method_33_code 69 = .ok (.goto (-59), 3) := by decide +kernel
theorem d_M_prepend_72 : decode prog_13_method_33_code 72 = .ok (.return_, 1) := by decide +kernel
theorem d_M_begin_0 : decode prog_13_method_34_code 0 = .ok (.aload_n 0, 1) := by decide +kernel
theorem d_M_begin_1 : decode prog_13_method_34_code 1 = .ok (.iconst 0, 1) := by decide +kernel
theorem d_M_begin_2 : decode prog_13_method_34_code 2 = .ok (.putfield 211, 3) := by decide +kernel
theorem d_M_begin_5 : decode prog_13_method_34_code 5 = .ok (.aload_n 0, 1) := by decide +kernel
theorem d_M_begin_6 : decode prog_13_method_34_code 6 = .ok (.iconst 0, 1) := by decide +kernel
theorem d_M_begin_7 : decode prog_13_method_34_code 7 = .ok (.putfield 205, 3) := by decide +kernel
theorem d_M_begin_10 : decode prog_13_method_34_code 10 = .ok (.aload_n 0, 1) := by decide +kernel
theorem d_M_begin_11 : decode prog_13_method_34_code 11 = .ok (.iconst 0, 1) := by decide +kernel
theorem d_M_begin_12 : decode prog_13_method_34_code 12 = .ok (.invokevirtual 265, 3) := by decide +kernel
theorem d_M_begin_15 : decode prog_13_method_34_code 15 = .ok (.aload_n 0, 1) := by decide +kernel
theorem d_M_begin_16 : decode prog_13_method_34_code 16 = .ok (.bipush 24, 2) := by decide +kernel
theorem d_M_begin_18 : decode prog_13_method_34_code 18 = .ok (.iconst 0, 1) := by decide +kernel
theorem d_M_begin_19 : decode prog_13_method_34_code 19 = .ok (.iconst 0, 1) := by decide +kernel
theorem d_M_begin_20 : decode prog_13_method_34_code 20 = .ok (.invokevirtual 269, 3) := by decide +kernel
theorem d_M_begin_23 : decode prog_13_method_34_code 23 = .ok (.return_, 1) := by decide +kernel
theorem d_M_ask_0 : decode prog_13_method_24_code 0 = .ok (.aload_n 0, 1) := by decide +kernel
theorem d_M_ask_1 : decode prog_13_method_24_code 1 = .ok (.iconst 1, 1) := by decide +kernel
theorem d_M_ask_2 : decode prog_13_method_24_code 2 = .ok (.invokevirtual 214, 3) := by decide +kernel
theorem d_M_ask_5 : decode prog_13_method_24_code 5 = .ok (.istore_n 1, 1) := by decide +kernel
theorem d_M_ask_6 : decode prog_13_method_24_code 6 = .ok (.aload_n 0, 1) := by decide +kernel
theorem d_M_ask_7 : decode prog_13_method_24_code 7 = .ok (.iconst 0, 1) := by decide +kernel
theorem d_M_ask_8 : decode prog_13_method_24_code 8 = .ok (.putfield 116, 3) := by decide +kernel
theorem d_M_ask_11 : decode prog_13_method_24_code 11 = .ok (.aload_n 0, 1) := by decide +kernel
theorem d_M_ask_12 : decode prog_13_method_24_code 12 = .ok (.invokevirtual 218, 3) := by decide +kernel
theorem d_M_ask_15 : decode prog_13_method_24_code 15 = .ok (.iload_n 1, 1) := by decide +kernel
theorem d_M_ask_16 : decode prog_13_method_24_code 16 = .ok (.ifCond .lt 7, 3) := by decide +kernel
theorem d_M_ask_19 : decode prog_13_method_24_code 19 = .ok (.iconst (-1), 1) := by decide +kernel
theorem d_M_ask_20 : decode prog_13_method_24_code 20 = .ok (.iload_n 1, 1) := by decide +kernel
theorem d_M_ask_21 : decode prog_13_method_24_code 21 = .ok (.isub, 1) := by decide +kernel
theorem d_M_ask_22 : decode prog_13_method_24_code 22 = .ok (.ireturn, 1) := by decide +kernel
theorem d_M_ask_23 : decode prog_13_method_24_code 23 = .ok (.aload_n 0, 1) := by decide +kernel
theorem d_M_ask_24 : decode prog_13_method_24_code 24 = .ok (.invokevirtual 227, 3) := by decide +kernel
theorem d_M_ask_27 : decode prog_13_method_24_code 27 = .ok (.istore_n 2, 1) := by decide +kernel
theorem d_M_ask_28 : decode prog_13_method_24_code 28 = .ok (.aload_n 0, 1) := by decide +kernel
theorem d_M_ask_29 : decode prog_13_method_24_code 29 = .ok (.iconst 0, 1) := by decide +kernel
theorem d_M_ask_30 : decode prog_13_method_24_code 30 = .ok (.invokevirtual 224, 3) := by decide +kernel
theorem d_M_ask_33 : decode prog_13_method_24_code 33 = .ok (.ifCond .ne 9, 3) := by decide +kernel
theorem d_M_ask_36 : decode prog_13_method_24_code 36 = .ok (.iload_n 2, 1) := by decide +kernel
theorem d_M_ask_37 : decode prog_13_method_24_code 37 = .ok (.bipush 32, 2) := by decide +kernel
theorem d_M_ask_39 : decode prog_13_method_24_code 39 = .ok (.if_icmp .le 7, 3) := by decide +kernel
theorem d_M_ask_42 : decode prog_13_method_24_code 42 = .ok (.sipush (-1000), 3) := by decide +kernel
theorem d_M_ask_45 : decode prog_13_method_24_code 45 = .ok (.ireturn, 1) := by decide +kernel
theorem d_M_ask_46 : decode prog_13_method_24_code 46 = .ok (.aload_n 0, 1) := by decide +kernel
theorem d_M_ask_47 : decode prog_13_method_24_code 47 = .ok (.iload_n 2, 1) := by decide +kernel
theorem d_M_ask_48 : decode prog_13_method_24_code 48 = .ok (.putfield 196, 3) := by decide +kernel
theorem d_M_ask_51 : decode prog_13_method_24_code 51 = .ok (.aload_n 0, 1) := by decide +kernel
theorem d_M_ask_52 : decode prog_13_method_24_code 52 = .ok (.iconst 0, 1) := by decide +kernel
theorem d_M_ask_53 : decode prog_13_method_24_code 53 = .ok (.iconst 0, 1) := by decide +kernel
theorem d_M_ask_54 : decode prog_13_method_24_code 54 = .ok (.bipush 24, 2) := by decide +kernel
theorem d_M_ask_56 : decode prog_13_method_24_code 56 = .ok (.invokevirtual 231, 3) := by decide +kernel
theorem d_M_ask_59 : decode prog_13_method_24_code 59 = .ok (.aload_n 0, 1) := by decide +kernel
theorem d_M_ask_60 : decode prog_13_method_24_code 60 = .ok (.iconst 0, 1) := by decide +kernel
theorem d_M_ask_61 : decode prog_13_method_24_code 61 = .ok (.putfield 235, 3) := by decide +kernel
theorem d_M_ask_64 : decode prog_13_method_24_code 64 = .ok (.iconst 0, 1) := by decide +kernel
theorem d_M_ask_65 : decode prog_13_method_24_code 65 = .ok (.istore_n 3, 1) := by decide +kernel
theorem d_M_ask_66 : decode prog_13_method_24_code 66 = .ok (.iload_n 3, 1) := by decide +kernel
theorem d_M_ask_67 : decode prog_13_method_24_code 67 = .ok (.aload_n 0, 1) := by decide +kernel
theorem d_M_ask_68 : decode prog_13_method_24_code 68 = .ok (.getfield 140, 3) := by decide +kernel
theorem d_M_ask_71 : decode prog_13_method_24_code 71 = .ok (.if_icmp .ge 51, 3) := by decide +kernel
theorem d_M_ask_74 : decode prog_13_method_24_code 74 = .ok (.aload_n 0, 1) := by decide +kernel
theorem d_M_ask_75 : decode prog_13_method_24_code 75 = .ok (.getfield 32, 3) := by decide +kernel
theorem d_M_ask_78 : decode prog_13_method_24_code 78 = .ok (.iload_n 3, 1) := by decide +kernel
theorem d_M_ask_79 : decode prog_13_method_24_code 79 = .ok (.laload, 1) := by decide +kernel
theorem d_M_ask_80 : decode prog_13_method_24_code 80 = .ok (.ldc2_w 143, 3) := by decide +kernel
theorem d_M_ask_83 : decode prog_13_method_24_code 83 = .ok (.lcmp, 1) := by decide +kernel
theorem d_M_ask_84 : decode prog_13_method_24_code 84 = .ok (.ifCond .eq 32, 3) := by decide +kernel
theorem d_M_ask_87 : decode prog_13_method_24_code 87 = .ok (.aload_n 0, 1) := by decide +kernel
theorem d_M_ask_88 : decode prog_13_method_24_code 88 = .ok (.getfield 65, 3) := by decide +kernel
theorem d_M_ask_91 : decode prog_13_method_24_code 91 = .ok (.aload_n 0, 1) := by decide +kernel
theorem d_M_ask_92 : decode prog_13_method_24_code 92 = .ok (.getfield 235, 3) := by decide +kernel
theorem d_M_ask_95 : decode prog_13_method_24_code 95 = .ok (.sipush 960, 3) := by decide +kernel
theorem d_M_ask_98 : decode prog_13_method_24_code 98 = .ok (.aload_n 0, 1) := by decide +kernel
theorem d_M_ask_99 : decode prog_13_method_24_code 99 = .ok (.getfield 35, 3) := by decide +kernel
theorem d_M_ask_102 : decode prog_13_method_24_code 102 = .ok (.iload_n 3, 1) := by decide +kernel
theorem d_M_ask_103 : decode prog_13_method_24_code 103 = .ok (.iaload, 1) := by decide +kernel
theorem d_M_ask_104 : decode prog_13_method_24_code 104 = .ok (.iadd, 1) := by decide +kernel
theorem d_M_ask_105 : decode prog_13_method_24_code 105 = .ok (.iastore, 1) := by decide +kernel
theorem d_M_ask_106 : decode prog_13_method_24_code 106 = .ok (.aload_n 0, 1) := by decide +kernel
theorem d_M_ask_107 : decode prog_13_method_24_code 107 = .ok (.aload_n 0, 1) := by decide +kernel
theorem d_M_ask_108 : decode prog_13_method_24_code 108 = .ok (.getfield 235, 3) := by decide +kernel
theorem d_M_ask_111 : decode prog_13_method_24_code 111 = .ok (.iconst 1, 1) := by decide +kernel
theorem d_M_ask_112 : decode prog_13_method_24_code 112 = .ok (.iadd, 1) := by decide +kernel
theorem d_M_ask_113 : decode prog_13_method_24_code 113 = .ok (.putfield 235, 3) := by decide +kernel
theorem d_M_ask_116 : decode prog_13_method_24_code 116 = .ok (.iinc 3 1, 3) := by decide +kernel
theorem d_M_ask_119 : decode prog_13_method_24_code 119 = .ok (.goto (-53), 3) := by decide +kernel
theorem d_M_ask_122 : decode prog_13_method_24_code 122 = .ok (.aload_n 0, 1) := by decide +kernel
theorem d_M_ask_123 : decode prog_13_method_24_code 123 = .ok (.iconst 1, 1) := by decide +kernel
theorem d_M_ask_124 : decode prog_13_method_24_code 124 = .ok (.putfield 199, 3) := by decide +kernel
theorem d_M_ask_127 : decode prog_13_method_24_code 127 = .ok (.aload_n 0, 1) := by decide +kernel
theorem d_M_ask_128 : decode prog_13_method_24_code 128 = .ok (.invokevirtual 238, 3) := by decide +kernel
theorem d_M_ask_131 : decode prog_13_method_24_code 131 = .ok (.aload_n 0, 1) := by decide +kernel
theorem d_M_ask_132 : decode prog_13_method_24_code 132 = .ok (.getfield 235, 3) := by decide +kernel
theorem d_M_ask_135 : decode prog_13_method_24_code 135 = .ok (.ireturn, 1) := by decide +kernel
theorem d_M_end_0 : decode prog_13_method_40_code 0 = .ok (.aload_n 0, 1) := by decide +kernel
theorem d_M_end_1 : decode prog_13_method_40_code 1 = .ok (.iconst 4, 1) := by decide +kernel
theorem d_M_end_2 : decode prog_13_method_40_code 2 = .ok (.putfield 199, 3) := by decide +kernel
theorem d_M_end_5 : decode prog_13_method_40_code 5 = .ok (.aload_n 0, 1) := by decide +kernel
theorem d_M_end_6 : decode prog_13_method_40_code 6 = .ok (.iload_n 1, 1) := by decide +kernel
theorem d_M_end_7 : decode prog_13_method_40_code 7 = .ok (.putfield 288, 3) := by decide +kernel
theorem d_M_end_10 : decode prog_13_method_40_code 10 = .ok (.return_, 1) := by decide +kernel
theorem d_M_isWordAlone_0 : decode prog_13_method_35_code 0 = .ok (.aload_n 0, 1) := by decide +kernel
theorem d_M_isWordAlone_1 : decode prog_13_method_35_code 1 = .ok (.getfield 50, 3) := by decide +kernel
theorem d_M_isWordAlone_4 : decode prog_13_method_35_code 4 = .ok (.iload_n 1, 1) := by decide +kernel
theorem d_M_isWordAlone_5 : decode prog_13_method_35_code 5 = .ok (.iaload, 1) := by decide +kernel
theorem d_M_isWordAlone_6 : decode prog_13_method_35_code 6 = .ok (.ifCond .ne 18, 3) := by decide +kernel
theorem d_M_isWordAlone_9 : decode prog_13_method_35_code 9 = .ok (.aload_n 0, 1) := by decide +kernel
theorem d_M_isWordAlone_10 : decode prog_13_method_35_code 10 = .ok (.getfield 47, 3) := by decide +kernel
theorem d_M_isWordAlone_13 : decode prog_13_method_35_code 13 = .ok (.iload_n 1, 1) := by decide +kernel
theorem d_M_isWordAlone_14 : decode prog_13_method_35_code 14 = .ok (.laload, 1) := by decide +kernel
theorem d_M_isWordAlone_15 : decode prog_13_method_35_code 15 = .ok (.lload_n 2, 1) := by decide +kernel
theorem d_M_isWordAlone_16 : decode prog_13_method_35_code 16 = .ok (.lcmp, 1) := by decide +kernel
theorem d_M_isWordAlone_17 : decode prog_13_method_35_code 17 = .ok (.ifCond .ne 7, 3) := by decide +kernel
theorem d_M_isWordAlone_20 : decode prog_13_method_35_code 20 = .ok (.iconst 1, 1) := by decide +kernel
theorem d_M_isWordAlone_21 : decode prog_13_method_35_code 21 = .ok (.goto 4, 3) := by decide +kernel
theorem d_M_isWordAlone_24 : decode prog_13_method_35_code 24 = .ok (.iconst 0, 1) := by decide +kernel
theorem d_M_isWordAlone_25 : decode prog_13_method_35_code 25 = .ok (.ireturn, 1) := by decide +kernel
theorem d_M_follow_0 : decode prog_13_method_26_code 0 = .ok (.aload_n 0, 1) := by decide +kernel
theorem d_M_follow_1 : decode prog_13_method_26_code 1 = .ok (.iload_n 1, 1) := by decide +kernel
theorem d_M_follow_2 : decode prog_13_method_26_code 2 = .ok (.putfield 241, 3) := by decide +kernel
theorem d_M_follow_5 : decode prog_13_method_26_code 5 = .ok (.aload_n 0, 1) := by decide +kernel
theorem d_M_follow_6 : decode prog_13_method_26_code 6 = .ok (.iload_n 2, 1) := by decide +kernel
theorem d_M_follow_7 : decode prog_13_method_26_code 7 = .ok (.putfield 244, 3) := by decide +kernel
theorem d_M_follow_10 : decode prog_13_method_26_code 10 = .ok (.iconst 0, 1) := by decide +kernel
theorem d_M_follow_11 : decode prog_13_method_26_code 11 = .ok (.istore_n 3, 1) := by decide +kernel
theorem d_M_follow_12 : decode prog_13_method_26_code 12 = .ok (.iload_n 3, 1) := by decide +kernel
theorem d_M_follow_13 : decode prog_13_method_26_code 13 = .ok (.sipush 500, 3) := by decide +kernel
theorem d_M_follow_16 : decode prog_13_method_26_code 16 = .ok (.if_icmp .ge 75, 3) := by decide +kernel
theorem d_M_follow_19 : decode prog_13_method_26_code 19 = .ok (.aload_n 0, 1) := by decide +kernel
theorem d_M_follow_20 : decode prog_13_method_26_code 20 = .ok (.getfield 50, 3) := by decide +kernel
theorem d_M_follow_23 : decode prog_13_method_26_code 23 = .ok (.aload_n 0, 1) := by decide +kernel
theorem d_M_follow_24 : decode prog_13_method_26_code 24 = .ok (.getfield 241, 3) := by decide +kernel
theorem d_M_follow_27 : decode prog_13_method_26_code 27 = .ok (.iaload, 1) := by decide +kernel
theorem d_M_follow_28 : decode prog_13_method_26_code 28 = .ok (.iconst (-1), 1) := by decide +kernel
theorem d_M_follow_29 : decode prog_13_method_26_code 29 = .ok (.if_icmp .ne 62, 3) := by decide +kernel
theorem d_M_follow_32 : decode prog_13_method_26_code 32 = .ok (.bipush 8, 2) := by decide +kernel
theorem d_M_follow_34 : decode prog_13_method_26_code 34 = .ok (.aload_n 0, 1) := by decide +kernel
theorem d_M_follow_35 : decode prog_13_method_26_code 35 = .ok (.getfield 244, 3) := by decide +kernel
theorem d_M_follow_38 : decode prog_13_method_26_code 38 = .ok (.imul, 1) := by decide +kernel
theorem d_M_follow_39 : decode prog_13_method_26_code 39 = .ok (.aload_n 0, 1) := by decide +kernel
theorem d_M_follow_40 : decode prog_13_method_26_code 40 = .ok (.getfield 47, 3) := by decide +kernel
theorem d_M_follow_43 : decode prog_13_method_26_code 43 = .ok (.aload_n 0, 1) := by decide +kernel
theorem d_M_follow_44 : decode prog_13_method_26_code 44 = .ok (.getfield 241, 3) := by decide +kernel
theorem d_M_follow_47 : decode prog_13_method_26_code 47 = .ok (.laload, 1) := by decide +kernel
theorem d_M_follow_48 : decode prog_13_method_26_code 48 = .ok (.l2i, 1) := by decide +kernel
theorem d_M_follow_49 : decode prog_13_method_26_code 49 = .ok (.iadd, 1) := by decide +kernel
theorem d_M_follow_50 : decode prog_13_method_26_code 50 = .ok (.istore 4, 2) := by decide +kernel
theorem d_M_follow_52 : decode prog_13_method_26_code 52 = .ok (.aload_n 0, 1) := by decide +kernel
theorem d_M_follow_53 : decode prog_13_method_26_code 53 = .ok (.getfield 89, 3) := by decide +kernel
theorem d_M_follow_56 : decode prog_13_method_26_code 56 = .ok (.iload 4, 2) := by decide +kernel
theorem d_M_follow_58 : decode prog_13_method_26_code 58 = .ok (.iaload, 1) := by decide +kernel
theorem d_M_follow_59 : decode prog_13_method_26_code 59 = .ok (.ifCond .ge 4, 3) := by decide +kernel
theorem d_M_follow_62 : decode prog_13_method_26_code 62 = .ok (.return_, 1) := by decide +kernel
theorem d_M_follow_63 : decode prog_13_method_26_code 63 = .ok (.aload_n 0, 1) := by decide +kernel
theorem d_M_follow_64 : decode prog_13_method_26_code 64 = .ok (.aload_n 0, 1) := by decide +kernel
theorem d_M_follow_65 : decode prog_13_method_26_code 65 = .ok (.getfield 89, 3) := by decide +kernel
theorem d_M_follow_68 : decode prog_13_method_26_code 68 = .ok (.iload 4, 2) := by decide +kernel
theorem d_M_follow_70 : decode prog_13_method_26_code 70 = .ok (.iaload, 1) := by decide +kernel
theorem d_M_follow_71 : decode prog_13_method_26_code 71 = .ok (.putfield 241, 3) := by decide +kernel
theorem d_M_follow_74 : decode prog_13_method_26_code 74 = .ok (.aload_n 0, 1) := by decide +kernel
theorem d_M_follow_75 : decode prog_13_method_26_code 75 = .ok (.aload_n 0, 1) := by decide +kernel
theorem d_M_follow_76 : decode prog_13_method_26_code 76 = .ok (.getfield 92, 3) := by decide +kernel
theorem d_M_follow_79 : decode prog_13_method_26_code 79 = .ok (.iload 4, 2) := by decide +kernel
theorem d_M_follow_81 : decode prog_13_method_26_code 81 = .ok (.iaload, 1) := by decide +kernel
theorem d_M_follow_82 : decode prog_13_method_26_code 82 = .ok (.putfield 244, 3) := by decide +kernel
theorem d_M_follow_85 : decode prog_13_method_26_code 85 = .ok (.iinc 3 1, 3) := by decide +kernel
theorem d_M_follow_88 : decode prog_13_method_26_code 88 = .ok (.goto (-76), 3) := by decide +kernel
theorem d_M_follow_91 : decode prog_13_method_26_code 91 = .ok (.return_, 1) := by decide +kernel
theorem d_M_candidate_0 : decode prog_13_method_38_code 0 = .ok (.iload_n 3, 1) := by decide +kernel
theorem d_M_candidate_1 : decode prog_13_method_38_code 1 = .ok (.iconst 1, 1) := by decide +kernel
theorem d_M_candidate_2 : decode prog_13_method_38_code 2 = .ok (.iadd, 1) := by decide +kernel
theorem d_M_candidate_3 : decode prog_13_method_38_code 3 = .ok (.istore 4, 2) := by decide +kernel
theorem d_M_candidate_5 : decode prog_13_method_38_code 5 = .ok (.iload 4, 2) := by decide +kernel
theorem d_M_candidate_7 : decode prog_13_method_38_code 7 = .ok (.aload_n 0, 1) := by decide +kernel
theorem d_M_candidate_8 : decode prog_13_method_38_code 8 = .ok (.getfield 221, 3) := by decide +kernel
theorem d_M_candidate_11 : decode prog_13_method_38_code 11 = .ok (.if_icmp .ge 162, 3) := by decide +kernel
theorem d_M_candidate_14 : decode prog_13_method_38_code 14 = .ok (.bipush 40, 2) := by decide +kernel
theorem d_M_candidate_16 : decode prog_13_method_38_code 16 = .ok (.iload 4, 2) := by decide +kernel
theorem d_M_candidate_18 : decode prog_13_method_38_code 18 = .ok (.imul, 1) := by decide +kernel
theorem d_M_candidate_19 : decode prog_13_method_38_code 19 = .ok (.istore 5, 2) := by decide +kernel
theorem d_M_candidate_21 : decode prog_13_method_38_code 21 = .ok (.aload_n 0, 1) := by decide +kernel
theorem d_M_candidate_22 : decode prog_13_method_38_code 22 = .ok (.getfield 47, 3) := by decide +kernel
theorem d_M_candidate_25 : decode prog_13_method_38_code 25 = .ok (.iload 5, 2) := by decide +kernel
theorem d_M_candidate_27 : decode prog_13_method_38_code 27 = .ok (.laload, 1) := by decide +kernel
theorem d_M_candidate_28 : decode prog_13_method_38_code 28 = .ok (.aload_n 0, 1) := by decide +kernel
theorem d_M_candidate_29 : decode prog_13_method_38_code 29 = .ok (.getfield 47, 3) := by decide +kernel
theorem d_M_candidate_32 : decode prog_13_method_38_code 32 = .ok (.iload_n 1, 1) := by decide +kernel
theorem d_M_candidate_33 : decode prog_13_method_38_code 33 = .ok (.laload, 1) := by decide +kernel
theorem d_M_candidate_34 : decode prog_13_method_38_code 34 = .ok (.lcmp, 1) := by decide +kernel
theorem d_M_candidate_35 : decode prog_13_method_38_code 35 = .ok (.ifCond .ne 23, 3) := by decide +kernel
theorem d_M_candidate_38 : decode prog_13_method_38_code 38 = .ok (.aload_n 0, 1) := by decide +kernel
theorem d_M_candidate_39 : decode prog_13_method_38_code 39 = .ok (.getfield 50, 3) := by decide +kernel
theorem d_M_candidate_42 : decode prog_13_method_38_code 42 = .ok (.iload 5, 2) := by decide +kernel
theorem d_M_candidate_44 : decode prog_13_method_38_code 44 = .ok (.iaload, 1) := by decide +kernel
theorem d_M_candidate_45 : decode prog_13_method_38_code 45 = .ok (.aload_n 0, 1) := by decide +kernel
theorem d_M_candidate_46 : decode prog_13_method_38_code 46 = .ok (.getfield 50, 3) := by decide +kernel
theorem d_M_candidate_49 : decode prog_13_method_38_code 49 = .ok (.iload_n 1, 1) := by decide +kernel
theorem d_M_candidate_50 : decode prog_13_method_38_code 50 = .ok (.iaload, 1) := by decide +kernel
theorem d_M_candidate_51 : decode prog_13_method_38_code 51 = .ok (.if_icmp .ne 7, 3) := by decide +kernel
theorem d_M_candidate_54 : decode prog_13_method_38_code 54 = .ok (.iconst 1, 1) := by decide +kernel
theorem d_M_candidate_55 : decode prog_13_method_38_code 55 = .ok (.goto 4, 3) := by decide +kernel
theorem d_M_candidate_58 : decode prog_13_method_38_code 58 = .ok (.iconst 0, 1) := by decide +kernel
theorem d_M_candidate_59 : decode prog_13_method_38_code 59 = .ok (.istore 6, 2) := by decide +kernel
theorem d_M_candidate_61 : decode prog_13_method_38_code 61 = .ok (.iload 6, 2) := by decide +kernel
theorem d_M_candidate_63 : decode prog_13_method_38_code 63 = .ok (.ifCond .eq 96, 3) := by decide +kernel
theorem d_M_candidate_66 : decode prog_13_method_38_code 66 = .ok (.aload_n 0, 1) := by decide +kernel
theorem d_M_candidate_67 : decode prog_13_method_38_code 67 = .ok (.getfield 50, 3) := by decide +kernel
theorem d_M_candidate_70 : decode prog_13_method_38_code 70 = .ok (.iload_n 1, 1) := by decide +kernel
theorem d_M_candidate_71 : decode prog_13_method_38_code 71 = .ok (.iaload, 1) := by decide +kernel
theorem d_M_candidate_72 : decode prog_13_method_38_code 72 = .ok (.ifCond .le 87, 3) := by decide +kernel
theorem d_M_candidate_75 : decode prog_13_method_38_code 75 = .ok (.aload_n 0, 1) := by decide +kernel
theorem d_M_candidate_76 : decode prog_13_method_38_code 76 = .ok (.iload_n 1, 1) := by decide +kernel
theorem d_M_candidate_77 : decode prog_13_method_38_code 77 = .ok (.iconst 1, 1) := by decide +kernel
theorem d_M_candidate_78 : decode prog_13_method_38_code 78 = .ok (.iadd, 1) := by decide +kernel
theorem d_M_candidate_79 : decode prog_13_method_38_code 79 = .ok (.iload_n 2, 1) := by decide +kernel
theorem d_M_candidate_80 : decode prog_13_method_38_code 80 = .ok (.invokevirtual 250, 3) := by decide +kernel
theorem d_M_candidate_83 : decode prog_13_method_38_code 83 = .ok (.iload 5, 2) := by decide +kernel
theorem d_M_candidate_85 : decode prog_13_method_38_code 85 = .ok (.iconst 1, 1) := by decide +kernel
theorem d_M_candidate_86 : decode prog_13_method_38_code 86 = .ok (.iadd, 1) := by decide +kernel
theorem d_M_candidate_87 : decode prog_13_method_38_code 87 = .ok (.istore 7, 2) := by decide +kernel
theorem d_M_candidate_89 : decode prog_13_method_38_code 89 = .ok (.aload_n 0, 1) := by decide +kernel
theorem d_M_candidate_90 : decode prog_13_method_38_code 90 = .ok (.getfield 50, 3) := by decide +kernel
theorem d_M_candidate_93 : decode prog_13_method_38_code 93 = .ok (.iload 7, 2) := by decide +kernel
theorem d_M_candidate_95 : decode prog_13_method_38_code 95 = .ok (.iaload, 1) := by decide +kernel
theorem d_M_candidate_96 : decode prog_13_method_38_code 96 = .ok (.iconst (-1), 1) := by decide +kernel
theorem d_M_candidate_97 : decode prog_13_method_38_code 97 = .ok (.if_icmp .eq 55, 3) := by decide +kernel
theorem d_M_candidate_100 : decode prog_13_method_38_code 100 = .ok (.aload_n 0, 1) := by decide +kernel
theorem d_M_candidate_101 : decode prog_13_method_38_code 101 = .ok (.getfield 50, 3) := by decide +kernel
theorem d_M_candidate_104 : decode prog_13_method_38_code 104 = .ok (.aload_n 0, 1) := by decide +kernel
theorem d_M_candidate_105 : decode prog_13_method_38_code 105 = .ok (.getfield 241, 3) := by decide +kernel
theorem d_M_candidate_108 : decode prog_13_method_38_code 108 = .ok (.iaload, 1) := by decide +kernel
theorem d_M_candidate_109 : decode prog_13_method_38_code 109 = .ok (.iconst (-1), 1) := by decide +kernel
theorem d_M_candidate_110 : decode prog_13_method_38_code 110 = .ok (.if_icmp .eq 42, 3) := by decide +kernel
theorem d_M_candidate_113 : decode prog_13_method_38_code 113 = .ok (.aload_n 0, 1) := by decide +kernel
theorem d_M_candidate_114 : decode prog_13_method_38_code 114 = .ok (.getfield 47, 3) := by decide +kernel
theorem d_M_candidate_117 : decode prog_13_method_38_code 117 = .ok (.iload 7, 2) := by decide +kernel
theorem d_M_candidate_119 : decode prog_13_method_38_code 119 = .ok (.laload, 1) := by decide +kernel
theorem d_M_candidate_120 : decode prog_13_method_38_code 120 = .ok (.aload_n 0, 1) := by decide +kernel
theorem d_M_candidate_121 : decode prog_13_method_38_code 121 = .ok (.getfield 47, 3) := by decide +kernel
theorem d_M_candidate_124 : decode prog_13_method_38_code 124 = .ok (.aload_n 0, 1) := by decide +kernel
theorem d_M_candidate_125 : decode prog_13_method_38_code 125 = .ok (.getfield 241, 3) := by decide +kernel
theorem d_M_candidate_128 : decode prog_13_method_38_code 128 = .ok (.laload, 1) := by decide +kernel
theorem d_M_candidate_129 : decode prog_13_method_38_code 129 = .ok (.lcmp, 1) := by decide +kernel
theorem d_M_candidate_130 : decode prog_13_method_38_code 130 = .ok (.ifCond .ne 26, 3) := by decide +kernel
theorem d_M_candidate_133 : decode prog_13_method_38_code 133 = .ok (.aload_n 0, 1) := by decide +kernel
theorem d_M_candidate_134 : decode prog_13_method_38_code 134 = .ok (.getfield 50, 3) := by decide +kernel
theorem d_M_candidate_137 : decode prog_13_method_38_code 137 = .ok (.iload 7, 2) := by decide +kernel
theorem d_M_candidate_139 : decode prog_13_method_38_code 139 = .ok (.iaload, 1) := by decide +kernel
theorem d_M_candidate_140 : decode prog_13_method_38_code 140 = .ok (.aload_n 0, 1) := by decide +kernel
theorem d_M_candidate_141 : decode prog_13_method_38_code 141 = .ok (.getfield 50, 3) := by decide +kernel
theorem d_M_candidate_144 : decode prog_13_method_38_code 144 = .ok (.aload_n 0, 1) := by decide +kernel
theorem d_M_candidate_145 : decode prog_13_method_38_code 145 = .ok (.getfield 241, 3) := by decide +kernel
theorem d_M_candidate_148 : decode prog_13_method_38_code 148 = .ok (.iaload, 1) := by decide +kernel
theorem d_M_candidate_149 : decode prog_13_method_38_code 149 = .ok (.if_icmp .ne 7, 3) := by decide +kernel
theorem d_M_candidate_152 : decode prog_13_method_38_code 152 = .ok (.iconst 1, 1) := by decide +kernel
theorem d_M_candidate_153 : decode prog_13_method_38_code 153 = .ok (.goto 4, 3) := by decide +kernel
theorem d_M_candidate_156 : decode prog_13_method_38_code 156 = .ok (.iconst 0, 1) := by decide +kernel
theorem d_M_candidate_157 : decode prog_13_method_38_code 157 = .ok (.istore 6, 2) := by decide +kernel
theorem d_M_candidate_159 : decode prog_13_method_38_code 159 = .ok (.iload 6, 2) := by decide +kernel
theorem d_M_candidate_161 : decode prog_13_method_38_code 161 = .ok (.ifCond .eq 6, 3) := by decide +kernel
theorem d_M_candidate_164 : decode prog_13_method_38_code 164 = .ok (.iload 4, 2) := by decide +kernel
theorem d_M_candidate_166 : decode prog_13_method_38_code 166 = .ok (.ireturn, 1) := by decide +kernel
theorem d_M_candidate_167 : decode prog_13_method_38_code 167 = .ok (.iinc 4 1, 3) := by decide +kernel
theorem d_M_candidate_170 : decode prog_13_method_38_code 170 = .ok (.goto (-165), 3) := by decide +kernel
theorem d_M_candidate_173 : decode prog_13_method_38_code 173 = .ok (.iconst (-1), 1) := by decide +kernel
theorem d_M_candidate_174 : decode prog_13_method_38_code 174 = .ok (.ireturn, 1) := by decide +kernel
theorem d_M_behind_0 : decode prog_13_method_25_code 0 = .ok (.iload_n 1, 1) := by decide +kernel
theorem d_M_behind_1 : decode prog_13_method_25_code 1 = .ok (.istore_n 2, 1) := by decide +kernel
theorem d_M_behind_2 : decode prog_13_method_25_code 2 = .ok (.iconst 1, 1) := by decide +kernel
theorem d_M_behind_3 : decode prog_13_method_25_code 3 = .ok (.istore_n 3, 1) := by decide +kernel
theorem d_M_behind_4 : decode prog_13_method_25_code 4 = .ok (.iload_n 3, 1) := by decide +kernel
theorem d_M_behind_5 : decode prog_13_method_25_code 5 = .ok (.ifCond .le 35, 3) := by decide +kernel
theorem d_M_behind_8 : decode prog_13_method_25_code 8 = .ok (.aload_n 0, 1) := by decide +kernel
theorem d_M_behind_9 : decode prog_13_method_25_code 9 = .ok (.getfield 50, 3) := by decide +kernel
theorem d_M_behind_12 : decode prog_13_method_25_code 12 = .ok (.iload_n 2, 1) := by decide +kernel
theorem d_M_behind_13 : decode prog_13_method_25_code 13 = .ok (.iaload, 1) := by decide +kernel
theorem d_M_behind_14 : decode prog_13_method_25_code 14 = .ok (.ifCond .le 14, 3) := by decide +kernel
theorem d_M_behind_17 : decode prog_13_method_25_code 17 = .ok (.iload_n 3, 1) := by decide +kernel
theorem d_M_behind_18 : decode prog_13_method_25_code 18 = .ok (.aload_n 0, 1) := by decide +kernel
theorem d_M_behind_19 : decode prog_13_method_25_code 19 = .ok (.getfield 50, 3) := by decide +kernel
theorem d_M_behind_22 : decode prog_13_method_25_code 22 = .ok (.iload_n 2, 1) := by decide +kernel
theorem d_M_behind_23 : decode prog_13_method_25_code 23 = .ok (.iaload, 1) := by decide +kernel
theorem d_M_behind_24 : decode prog_13_method_25_code 24 = .ok (.iadd, 1) := by decide +kernel
theorem d_M_behind_25 : decode prog_13_method_25_code 25 = .ok (.goto 4, 3) := by decide +kernel
theorem d_M_behind_28 : decode prog_13_method_25_code 28 = .ok (.iload_n 3, 1) := by decide +kernel
theorem d_M_behind_29 : decode prog_13_method_25_code 29 = .ok (.istore_n 3, 1) := by decide +kernel
theorem d_M_behind_30 : decode prog_13_method_25_code 30 = .ok (.iload_n 2, 1) := by decide +kernel
theorem d_M_behind_31 : decode prog_13_method_25_code 31 = .ok (.iconst 1, 1) := by decide +kernel
theorem d_M_behind_32 : decode prog_13_method_25_code 32 = .ok (.iadd, 1) := by decide +kernel
theorem d_M_behind_33 : decode prog_13_method_25_code 33 = .ok (.istore_n 2, 1) := by decide +kernel
theorem d_M_behind_34 : decode prog_13_method_25_code 34 = .ok (.iinc 3 (-1), 3) := by decide +kernel
theorem d_M_behind_37 : decode prog_13_method_25_code 37 = .ok (.goto (-33), 3) := by decide +kernel
theorem d_M_behind_40 : decode prog_13_method_25_code 40 = .ok (.iload_n 2, 1) := by decide +kernel
theorem d_M_behind_41 : decode prog_13_method_25_code 41 = .ok (.ireturn, 1) := by decide +kernel
theorem d_M_pushAll_0 : decode prog_13_method_27_code 0 = .ok (.aload_n 0, 1) := by decide +kernel
theorem d_M_pushAll_1 : decode prog_13_method_27_code 1 = .ok (.getfield 50, 3) := by decide +kernel
theorem d_M_pushAll_4 : decode prog_13_method_27_code 4 = .ok (.iload_n 1, 1) := by decide +kernel
theorem d_M_pushAll_5 : decode prog_13_method_27_code 5 = .ok (.iaload, 1) := by decide +kernel
theorem d_M_pushAll_6 : decode prog_13_method_27_code 6 = .ok (.ifCond .le 12, 3) := by decide +kernel
theorem d_M_pushAll_9 : decode prog_13_method_27_code 9 = .ok (.aload_n 0, 1) := by decide +kernel
theorem d_M_pushAll_10 : decode prog_13_method_27_code 10 = .ok (.getfield 50, 3) := by decide +kernel
theorem d_M_pushAll_13 : decode prog_13_method_27_code 13 = .ok (.iload_n 1, 1) := by decide +kernel
theorem d_M_pushAll_14 : decode prog_13_method_27_code 14 = .ok (.iaload, 1) := by decide +kernel
theorem d_M_pushAll_15 : decode prog_13_method_27_code 15 = .ok (.goto 4, 3) := by decide +kernel
theorem d_M_pushAll_18 : decode prog_13_method_27_code 18 = .ok (.iconst 0, 1) := by decide +kernel
theorem d_M_pushAll_19 : decode prog_13_method_27_code 19 = .ok (.istore 4, 2) := by decide +kernel
theorem d_M_pushAll_21 : decode prog_13_method_27_code 21 = .ok (.iload_n 1, 1) := by decide +kernel
theorem d_M_pushAll_22 : decode prog_13_method_27_code 22 = .ok (.iconst 1, 1) := by decide +kernel
theorem d_M_pushAll_23 : decode prog_13_method_27_code 23 = .ok (.iadd, 1) := by decide +kernel
theorem d_M_pushAll_24 : decode prog_13_method_27_code 24 = .ok (.istore 5, 2) := by decide +kernel
theorem d_M_pushAll_26 : decode prog_13_method_27_code 26 = .ok (.iload 4, 2) := by decide +kernel
theorem d_M_pushAll_28 : decode prog_13_method_27_code 28 = .ok (.iconst 1, 1) := by decide +kernel
theorem d_M_pushAll_29 : decode prog_13_method_27_code 29 = .ok (.isub, 1) := by decide +kernel
theorem d_M_pushAll_30 : decode prog_13_method_27_code 30 = .ok (.istore 6, 2) := by decide +kernel
theorem d_M_pushAll_32 : decode prog_13_method_27_code 32 = .ok (.iload 6, 2) := by decide +kernel
theorem d_M_pushAll_34 : decode prog_13_method_27_code 34 = .ok (.ifCond .lt 44, 3) := by decide +kernel
theorem d_M_pushAll_37 : decode prog_13_method_27_code 37 = .ok (.aload_n 0, 1) := by decide +kernel
theorem d_M_pushAll_38 : decode prog_13_method_27_code 38 = .ok (.getfield 95, 3) := by decide +kernel
theorem d_M_pushAll_41 : decode prog_13_method_27_code 41 = .ok (.iload_n 3, 1) := by decide +kernel
theorem d_M_pushAll_42 : decode prog_13_method_27_code 42 = .ok (.iconst 2, 1) := by decide +kernel
theorem d_M_pushAll_43 : decode prog_13_method_27_code 43 = .ok (.iload 6, 2) := by decide +kernel
theorem d_M_pushAll_45 : decode prog_13_method_27_code 45 = .ok (.imul, 1) := by decide +kernel
theorem d_M_pushAll_46 : decode prog_13_method_27_code 46 = .ok (.iadd, 1) := by decide +kernel
theorem d_M_pushAll_47 : decode prog_13_method_27_code 47 = .ok (.iload 5, 2) := by decide +kernel
theorem d_M_pushAll_49 : decode prog_13_method_27_code 49 = .ok (.iastore, 1) := by decide +kernel
theorem d_M_pushAll_50 : decode prog_13_method_27_code 50 = .ok (.aload_n 0, 1) := by decide +kernel
theorem d_M_pushAll_51 : decode prog_13_method_27_code 51 = .ok (.getfield 95, 3) := by decide +kernel
theorem d_M_pushAll_54 : decode prog_13_method_27_code 54 = .ok (.iload_n 3, 1) := by decide +kernel
theorem d_M_pushAll_55 : decode prog_13_method_27_code 55 = .ok (.iconst 2, 1) := by decide +kernel
theorem d_M_pushAll_56 : decode prog_13_method_27_code 56 = .ok (.iload 6, 2) := by decide +kernel
theorem d_M_pushAll_58 : decode prog_13_method_27_code 58 = .ok (.imul, 1) := by decide +kernel
theorem d_M_pushAll_59 : decode prog_13_method_27_code 59 = .ok (.iadd, 1) := by decide +kernel
theorem d_M_pushAll_60 : decode prog_13_method_27_code 60 = .ok (.iconst 1, 1) := by decide +kernel
theorem d_M_pushAll_61 : decode prog_13_method_27_code 61 = .ok (.iadd, 1) := by decide +kernel
theorem d_M_pushAll_62 : decode prog_13_method_27_code 62 = .ok (.iload_n 2, 1) := by decide +kernel
theorem d_M_pushAll_63 : decode prog_13_method_27_code 63 = .ok (.iastore, 1) := by decide +kernel
theorem d_M_pushAll_64 : decode prog_13_method_27_code 64 = .ok (.aload_n 0, 1) := by decide +kernel
theorem d_M_pushAll_65 : decode prog_13_method_27_code 65 = .ok (.iload 5, 2) := by decide +kernel
theorem d_M_pushAll_67 : decode prog_13_method_27_code 67 = .ok (.invokevirtual 247, 3) := by decide +kernel
theorem d_M_pushAll_70 : decode prog_13_method_27_code 70 = .ok (.istore 5, 2) := by decide +kernel
theorem d_M_pushAll_72 : decode prog_13_method_27_code 72 = .ok (.iinc 6 (-1), 3) := by decide +kernel
theorem d_M_pushAll_75 : decode prog_13_method_27_code 75 = .ok (.goto (-43), 3) := by decide +kernel
theorem d_M_pushAll_78 : decode prog_13_method_27_code 78 = .ok (.iload_n 3, 1) := by decide +kernel
theorem d_M_pushAll_79 : decode prog_13_method_27_code 79 = .ok (.iconst 2, 1) := by decide +kernel
theorem d_M_pushAll_80 : decode prog_13_method_27_code 80 = .ok (.iload 4, 2) := by decide +kernel
theorem d_M_pushAll_82 : decode prog_13_method_27_code 82 = .ok (.imul, 1) := by decide +kernel
theorem d_M_pushAll_83 : decode prog_13_method_27_code 83 = .ok (.iadd, 1) := by decide +kernel
theorem d_M_pushAll_84 : decode prog_13_method_27_code 84 = .ok (.ireturn, 1) := by decide +kernel
theorem d_M_stands_0 : decode prog_13_method_29_code 0 = .ok (.aload_n 0, 1) := by decide +kernel
theorem d_M_stands_1 : decode prog_13_method_29_code 1 = .ok (.getfield 95, 3) := by decide +kernel
theorem d_M_stands_4 : decode prog_13_method_29_code 4 = .ok (.iload 4, 2) := by decide +kernel
theorem d_M_stands_6 : decode prog_13_method_29_code 6 = .ok (.iload_n 2, 1) := by decide +kernel
theorem d_M_stands_7 : decode prog_13_method_29_code 7 = .ok (.iastore, 1) := by decide +kernel
theorem d_M_stands_8 : decode prog_13_method_29_code 8 = .ok (.aload_n 0, 1) := by decide +kernel
theorem d_M_stands_9 : decode prog_13_method_29_code 9 = .ok (.getfield 95, 3) := by decide +kernel
theorem d_M_stands_12 : decode prog_13_method_29_code 12 = .ok (.iload 4, 2) := by decide +kernel
theorem d_M_stands_14 : decode prog_13_method_29_code 14 = .ok (.iconst 1, 1) := by decide +kernel
theorem d_M_stands_15 : decode prog_13_method_29_code 15 = .ok (.iadd, 1) := by decide +kernel
theorem d_M_stands_16 : decode prog_13_method_29_code 16 = .ok (.iload_n 3, 1) := by decide +kernel
theorem d_M_stands_17 : decode prog_13_method_29_code 17 = .ok (.iastore, 1) := by decide +kernel
theorem d_M_stands_18 : decode prog_13_method_29_code 18 = .ok (.iload 4, 2) := by decide +kernel
theorem d_M_stands_20 : decode prog_13_method_29_code 20 = .ok (.iconst 2, 1) := by decide +kernel
theorem d_M_stands_21 : decode prog_13_method_29_code 21 = .ok (.iadd, 1) := by decide +kernel
theorem d_M_stands_22 : decode prog_13_method_29_code 22 = .ok (.istore 5, 2) := by decide +kernel
theorem d_M_stands_24 : decode prog_13_method_29_code 24 = .ok (.iload 5, 2) := by decide +kernel
theorem d_M_stands_26 : decode prog_13_method_29_code 26 = .ok (.iload 4, 2) := by decide +kernel
theorem d_M_stands_28 : decode prog_13_method_29_code 28 = .ok (.if_icmp .le 83, 3) := by decide +kernel
theorem d_M_stands_31 : decode prog_13_method_29_code 31 = .ok (.aload_n 0, 1) := by decide +kernel
theorem d_M_stands_32 : decode prog_13_method_29_code 32 = .ok (.aload_n 0, 1) := by decide +kernel
theorem d_M_stands_33 : decode prog_13_method_29_code 33 = .ok (.getfield 95, 3) := by decide +kernel
theorem d_M_stands_36 : decode prog_13_method_29_code 36 = .ok (.iload 5, 2) := by decide +kernel
theorem d_M_stands_38 : decode prog_13_method_29_code 38 = .ok (.iconst 2, 1) := by decide +kernel
theorem d_M_stands_39 : decode prog_13_method_29_code 39 = .ok (.isub, 1) := by decide +kernel
theorem d_M_stands_40 : decode prog_13_method_29_code 40 = .ok (.iaload, 1) := by decide +kernel
theorem d_M_stands_41 : decode prog_13_method_29_code 41 = .ok (.aload_n 0, 1) := by decide +kernel
theorem d_M_stands_42 : decode prog_13_method_29_code 42 = .ok (.getfield 95, 3) := by decide +kernel
theorem d_M_stands_45 : decode prog_13_method_29_code 45 = .ok (.iload 5, 2) := by decide +kernel
theorem d_M_stands_47 : decode prog_13_method_29_code 47 = .ok (.iconst 1, 1) := by decide +kernel
theorem d_M_stands_48 : decode prog_13_method_29_code 48 = .ok (.isub, 1) := by decide +kernel
theorem d_M_stands_49 : decode prog_13_method_29_code 49 = .ok (.iaload, 1) := by decide +kernel
theorem d_M_stands_50 : decode prog_13_method_29_code 50 = .ok (.invokevirtual 250, 3) := by decide +kernel
theorem d_M_stands_53 : decode prog_13_method_29_code 53 = .ok (.aload_n 0, 1) := by decide +kernel
theorem d_M_stands_54 : decode prog_13_method_29_code 54 = .ok (.getfield 50, 3) := by decide +kernel
theorem d_M_stands_57 : decode prog_13_method_29_code 57 = .ok (.aload_n 0, 1) := by decide +kernel
theorem d_M_stands_58 : decode prog_13_method_29_code 58 = .ok (.getfield 241, 3) := by decide +kernel
theorem d_M_stands_61 : decode prog_13_method_29_code 61 = .ok (.iaload, 1) := by decide +kernel
theorem d_M_stands_62 : decode prog_13_method_29_code 62 = .ok (.iconst (-1), 1) := by decide +kernel
theorem d_M_stands_63 : decode prog_13_method_29_code 63 = .ok (.if_icmp .ne 27, 3) := by decide +kernel
theorem d_M_stands_66 : decode prog_13_method_29_code 66 = .ok (.bipush 8, 2) := by decide +kernel
theorem d_M_stands_68 : decode prog_13_method_29_code 68 = .ok (.aload_n 0, 1) := by decide +kernel
theorem d_M_stands_69 : decode prog_13_method_29_code 69 = .ok (.getfield 244, 3) := by decide +kernel
theorem d_M_stands_72 : decode prog_13_method_29_code 72 = .ok (.imul, 1) := by decide +kernel
theorem d_M_stands_73 : decode prog_13_method_29_code 73 = .ok (.aload_n 0, 1) := by decide +kernel
theorem d_M_stands_74 : decode prog_13_method_29_code 74 = .ok (.getfield 47, 3) := by decide +kernel
theorem d_M_stands_77 : decode prog_13_method_29_code 77 = .ok (.aload_n 0, 1) := by decide +kernel
theorem d_M_stands_78 : decode prog_13_method_29_code 78 = .ok (.getfield 241, 3) := by decide +kernel
theorem d_M_stands_81 : decode prog_13_method_29_code 81 = .ok (.laload, 1) := by decide +kernel
theorem d_M_stands_82 : decode prog_13_method_29_code 82 = .ok (.l2i, 1) := by decide +kernel
theorem d_M_stands_83 : decode prog_13_method_29_code 83 = .ok (.iadd, 1) := by decide +kernel
theorem d_M_stands_84 : decode prog_13_method_29_code 84 = .ok (.iload_n 1, 1) := by decide +kernel
theorem d_M_stands_85 : decode prog_13_method_29_code 85 = .ok (.if_icmp .ne 5, 3) := by decide +kernel
theorem d_M_stands_88 : decode prog_13_method_29_code 88 = .ok (.iconst 1, 1) := by decide +kernel
theorem d_M_stands_89 : decode prog_13_method_29_code 89 = .ok (.ireturn, 1) := by decide +kernel
theorem d_M_stands_90 : decode prog_13_method_29_code 90 = .ok (.aload_n 0, 1) := by decide +kernel
theorem d_M_stands_91 : decode prog_13_method_29_code 91 = .ok (.aload_n 0, 1) := by decide +kernel
theorem d_M_stands_92 : decode prog_13_method_29_code 92 = .ok (.getfield 241, 3) := by decide +kernel
theorem d_M_stands_95 : decode prog_13_method_29_code 95 = .ok (.aload_n 0, 1) := by decide +kernel
theorem d_M_stands_96 : decode prog_13_method_29_code 96 = .ok (.getfield 244, 3) := by decide +kernel
theorem d_M_stands_99 : decode prog_13_method_29_code 99 = .ok (.iload 5, 2) := by decide +kernel
theorem d_M_stands_101 : decode prog_13_method_29_code 101 = .ok (.iconst 2, 1) := by decide +kernel
theorem d_M_stands_102 : decode prog_13_method_29_code 102 = .ok (.isub, 1) := by decide +kernel
theorem d_M_stands_103 : decode prog_13_method_29_code 103 = .ok (.invokevirtual 254, 3) := by decide +kernel
theorem d_M_stands_106 : decode prog_13_method_29_code 106 = .ok (.istore 5, 2) := by decide +kernel
theorem d_M_stands_108 : decode prog_13_method_29_code 108 = .ok (.goto (-84), 3) := by decide +kernel
theorem d_M_stands_111 : decode prog_13_method_29_code 111 = .ok (.iconst 0, 1) := by decide +kernel
theorem d_M_stands_112 : decode prog_13_method_29_code 112 = .ok (.ireturn, 1) := by decide +kernel
theorem d_M_bind_0 : decode prog_13_method_30_code 0 = .ok (.aload_n 0, 1) := by decide +kernel
theorem d_M_bind_1 : decode prog_13_method_30_code 1 = .ok (.iload_n 1, 1) := by decide +kernel
theorem d_M_bind_2 : decode prog_13_method_30_code 2 = .ok (.iload_n 2, 1) := by decide +kernel
theorem d_M_bind_3 : decode prog_13_method_30_code 3 = .ok (.iload_n 3, 1) := by decide +kernel
theorem d_M_bind_4 : decode prog_13_method_30_code 4 = .ok (.iload 4, 2) := by decide +kernel
theorem d_M_bind_6 : decode prog_13_method_30_code 6 = .ok (.invokevirtual 258, 3) := by decide +kernel
theorem d_M_bind_9 : decode prog_13_method_30_code 9 = .ok (.ifCond .eq 5, 3) := by decide +kernel
theorem d_M_bind_12 : decode prog_13_method_30_code 12 = .ok (.iconst 0, 1) := by decide +kernel
theorem d_M_bind_13 : decode prog_13_method_30_code 13 = .ok (.ireturn, 1) := by decide +kernel
theorem d_M_bind_14 : decode prog_13_method_30_code 14 = .ok (.aload_n 0, 1) := by decide +kernel
theorem d_M_bind_15 : decode prog_13_method_30_code 15 = .ok (.getfield 89, 3) := by decide +kernel
theorem d_M_bind_18 : decode prog_13_method_30_code 18 = .ok (.iload_n 1, 1) := by decide +kernel
theorem d_M_bind_19 : decode prog_13_method_30_code 19 = .ok (.iload_n 2, 1) := by decide +kernel
theorem d_M_bind_20 : decode prog_13_method_30_code 20 = .ok (.iastore, 1) := by decide +kernel
theorem d_M_bind_21 : decode prog_13_method_30_code 21 = .ok (.aload_n 0, 1) := by decide +kernel
theorem d_M_bind_22 : decode prog_13_method_30_code 22 = .ok (.getfield 92, 3) := by decide +kernel
theorem d_M_bind_25 : decode prog_13_method_30_code 25 = .ok (.iload_n 1, 1) := by decide +kernel
theorem d_M_bind_26 : decode prog_13_method_30_code 26 = .ok (.iload_n 3, 1) := by decide +kernel
theorem d_M_bind_27 : decode prog_13_method_30_code 27 = .ok (.iastore, 1) := by decide +kernel
theorem d_M_bind_28 : decode prog_13_method_30_code 28 = .ok (.iconst 1, 1) := by decide +kernel
theorem d_M_bind_29 : decode prog_13_method_30_code 29 = .ok (.ireturn, 1) := by decide +kernel
theorem d_M_equalize_0 : decode prog_13_method_31_code 0 = .ok (.aload_n 0, 1) := by decide +kernel
theorem d_M_equalize_1 : decode prog_13_method_31_code 1 = .ok (.getfield 95, 3) := by decide +kernel
theorem d_M_equalize_4 : decode prog_13_method_31_code 4 = .ok (.iconst 0, 1) := by decide +kernel
theorem d_M_equalize_5 : decode prog_13_method_31_code 5 = .ok (.iload_n 1, 1) := by decide +kernel
theorem d_M_equalize_6 : decode prog_13_method_31_code 6 = .ok (.iastore, 1) := by decide +kernel
theorem d_M_equalize_7 : decode prog_13_method_31_code 7 = .ok (.aload_n 0, 1) := by decide +kernel
theorem d_M_equalize_8 : decode prog_13_method_31_code 8 = .ok (.getfield 95, 3) := by decide +kernel
theorem d_M_equalize_11 : decode prog_13_method_31_code 11 = .ok (.iconst 1, 1) := by decide +kernel
theorem d_M_equalize_12 : decode prog_13_method_31_code 12 = .ok (.iload_n 2, 1) := by decide +kernel
theorem d_M_equalize_13 : decode prog_13_method_31_code 13 = .ok (.iastore, 1) := by decide +kernel
theorem d_M_equalize_14 : decode prog_13_method_31_code 14 = .ok (.aload_n 0, 1) := by decide +kernel
theorem d_M_equalize_15 : decode prog_13_method_31_code 15 = .ok (.getfield 95, 3) := by decide +kernel
theorem d_M_equalize_18 : decode prog_13_method_31_code 18 = .ok (.iconst 2, 1) := by decide +kernel
theorem d_M_equalize_19 : decode prog_13_method_31_code 19 = .ok (.iload_n 3, 1) := by decide +kernel
theorem d_M_equalize_20 : decode prog_13_method_31_code 20 = .ok (.iastore, 1) := by decide +kernel
theorem d_M_equalize_21 : decode prog_13_method_31_code 21 = .ok (.aload_n 0, 1) := by decide +kernel
theorem d_M_equalize_22 : decode prog_13_method_31_code 22 = .ok (.getfield 95, 3) := by decide +kernel
theorem d_M_equalize_25 : decode prog_13_method_31_code 25 = .ok (.iconst 3, 1) := by decide +kernel
theorem d_M_equalize_26 : decode prog_13_method_31_code 26 = .ok (.iload 4, 2) := by decide +kernel
theorem d_M_equalize_28 : decode prog_13_method_31_code 28 = .ok (.iastore, 1) := by decide +kernel
theorem d_M_equalize_29 : decode prog_13_method_31_code 29 = .ok (.iconst 4, 1) := by decide +kernel
theorem d_M_equalize_30 : decode prog_13_method_31_code 30 = .ok (.istore 5, 2) := by decide +kernel
theorem d_M_equalize_32 : decode prog_13_method_31_code 32 = .ok (.iload 5, 2) := by decide +kernel
theorem d_M_equalize_34 : decode prog_13_method_31_code 34 = .ok (.ifCond .le 399, 3) := by decide +kernel
theorem d_M_equalize_37 : decode prog_13_method_31_code 37 = .ok (.iload 5, 2) := by decide +kernel
theorem d_M_equalize_39 : decode prog_13_method_31_code 39 = .ok (.iconst 4, 1) := by decide +kernel
theorem d_M_equalize_40 : decode prog_13_method_31_code 40 = .ok (.isub, 1) := by decide +kernel
theorem d_M_equalize_41 : decode prog_13_method_31_code 41 = .ok (.istore 5, 2) := by decide +kernel
theorem d_M_equalize_43 : decode prog_13_method_31_code 43 = .ok (.aload_n 0, 1) := by decide +kernel
theorem d_M_equalize_44 : decode prog_13_method_31_code 44 = .ok (.aload_n 0, 1) := by decide +kernel
theorem d_M_equalize_45 : decode prog_13_method_31_code 45 = .ok (.getfield 95, 3) := by decide +kernel
theorem d_M_equalize_48 : decode prog_13_method_31_code 48 = .ok (.iload 5, 2) := by decide +kernel
theorem d_M_equalize_50 : decode prog_13_method_31_code 50 = .ok (.iaload, 1) := by decide +kernel
theorem d_M_equalize_51 : decode prog_13_method_31_code 51 = .ok (.aload_n 0, 1) := by decide +kernel
theorem d_M_equalize_52 : decode prog_13_method_31_code 52 = .ok (.getfield 95, 3) := by decide +kernel
theorem d_M_equalize_55 : decode prog_13_method_31_code 55 = .ok (.iload 5, 2) := by decide +kernel
theorem d_M_equalize_57 : decode prog_13_method_31_code 57 = .ok (.iconst 1, 1) := by decide +kernel
theorem d_M_equalize_58 : decode prog_13_method_31_code 58 = .ok (.iadd, 1) := by decide +kernel
theorem d_M_equalize_59 : decode prog_13_method_31_code 59 = .ok (.iaload, 1) := by decide +kernel
theorem d_M_equalize_60 : decode prog_13_method_31_code 60 = .ok (.invokevirtual 250, 3) := by decide +kernel
theorem d_M_equalize_63 : decode prog_13_method_31_code 63 = .ok (.aload_n 0, 1) := by decide +kernel
theorem d_M_equalize_64 : decode prog_13_method_31_code 64 = .ok (.getfield 241, 3) := by decide +kernel
theorem d_M_equalize_67 : decode prog_13_method_31_code 67 = .ok (.istore 6, 2) := by decide +kernel
theorem d_M_equalize_69 : decode prog_13_method_31_code 69 = .ok (.aload_n 0, 1) := by decide +kernel
theorem d_M_equalize_70 : decode prog_13_method_31_code 70 = .ok (.getfield 244, 3) := by decide +kernel
theorem d_M_equalize_73 : decode prog_13_method_31_code 73 = .ok (.istore 7, 2) := by decide +kernel
theorem d_M_equalize_75 : decode prog_13_method_31_code 75 = .ok (.aload_n 0, 1) := by decide +kernel
theorem d_M_equalize_76 : decode prog_13_method_31_code 76 = .ok (.aload_n 0, 1) := by decide +kernel
theorem d_M_equalize_77 : decode prog_13_method_31_code 77 = .ok (.getfield 95, 3) := by decide +kernel
theorem d_M_equalize_80 : decode prog_13_method_31_code 80 = .ok (.iload 5, 2) := by decide +kernel
theorem d_M_equalize_82 : decode prog_13_method_31_code 82 = .ok (.iconst 2, 1) := by decide +kernel
theorem d_M_equalize_83 : decode prog_13_method_31_code 83 = .ok (.iadd, 1) := by decide +kernel
theorem d_M_equalize_84 : decode prog_13_method_31_code 84 = .ok (.iaload, 1) := by decide +kernel
theorem d_M_equalize_85 : decode prog_13_method_31_code 85 = .ok (.aload_n 0, 1) := by decide +kernel
theorem d_M_equalize_86 : decode prog_13_method_31_code 86 = .ok (.getfield 95, 3) := by decide +kernel
theorem d_M_equalize_89 : decode prog_13_method_31_code 89 = .ok (.iload 5, 2) := by decide +kernel
theorem d_M_equalize_91 : decode prog_13_method_31_code 91 = .ok (.iconst 3, 1) := by decide +kernel
theorem d_M_equalize_92 : decode prog_13_method_31_code 92 = .ok (.iadd, 1) := by decide +kernel
theorem d_M_equalize_93 : decode prog_13_method_31_code 93 = .ok (.iaload, 1) := by decide +kernel
theorem d_M_equalize_94 : decode prog_13_method_31_code 94 = .ok (.invokevirtual 250, 3) := by decide +kernel
theorem d_M_equalize_97 : decode prog_13_method_31_code 97 = .ok (.aload_n 0, 1) := by decide +kernel
theorem d_M_equalize_98 : decode prog_13_method_31_code 98 = .ok (.getfield 241, 3) := by decide +kernel
theorem d_M_equalize_101 : decode prog_13_method_31_code 101 = .ok (.istore 8, 2) := by decide +kernel
theorem d_M_equalize_103 : decode prog_13_method_31_code 103 = .ok (.aload_n 0, 1) := by decide +kernel
theorem d_M_equalize_104 : decode prog_13_method_31_code 104 = .ok (.getfield 244, 3) := by decide +kernel
theorem d_M_equalize_107 : decode prog_13_method_31_code 107 = .ok (.istore 9, 2) := by decide +kernel
theorem d_M_equalize_109 : decode prog_13_method_31_code 109 = .ok (.aload_n 0, 1) := by decide +kernel
theorem d_M_equalize_110 : decode prog_13_method_31_code 110 = .ok (.getfield 50, 3) := by decide +kernel
theorem d_M_equalize_113 : decode prog_13_method_31_code 113 = .ok (.iload 6, 2) := by decide +kernel
theorem d_M_equalize_115 : decode prog_13_method_31_code 115 = .ok (.iaload, 1) := by decide +kernel
theorem d_M_equalize_116 : decode prog_13_method_31_code 116 = .ok (.iconst (-1), 1) := by decide +kernel
theorem d_M_equalize_117 : decode prog_13_method_31_code 117 = .ok (.if_icmp .ne 7, 3) := by decide +kernel
theorem d_M_equalize_120 : decode prog_13_method_31_code 120 = .ok (.iconst 1, 1) := by decide +kernel
theorem d_M_equalize_121 : decode prog_13_method_31_code 121 = .ok (.goto 4, 3) := by decide +kernel
theorem d_M_equalize_124 : decode prog_13_method_31_code 124 = .ok (.iconst 0, 1) := by decide +kernel
theorem d_M_equalize_125 : decode prog_13_method_31_code 125 = .ok (.istore 10, 2) := by decide +kernel
theorem d_M_equalize_127 : decode prog_13_method_31_code 127 = .ok (.aload_n 0, 1) := by decide +kernel
theorem d_M_equalize_128 : decode prog_13_method_31_code 128 = .ok (.getfield 50, 3) := by decide +kernel
theorem d_M_equalize_131 : decode prog_13_method_31_code 131 = .ok (.iload 8, 2) := by decide +kernel
theorem d_M_equalize_133 : decode prog_13_method_31_code 133 = .ok (.iaload, 1) := by decide +kernel
theorem d_M_equalize_134 : decode prog_13_method_31_code 134 = .ok (.iconst (-1), 1) := by decide +kernel
theorem d_M_equalize_135 : decode prog_13_method_31_code 135 = .ok (.if_icmp .ne 7, 3) := by decide +kernel
theorem d_M_equalize_138 : decode prog_13_method_31_code 138 = .ok (.iconst 1, 1) := by decide +kernel
theorem d_M_equalize_139 : decode prog_13_method_31_code 139 = .ok (.goto 4, 3) := by decide +kernel
theorem d_M_equalize_142 : decode prog_13_method_31_code 142 = .ok (.iconst 0, 1) := by decide +kernel
theorem d_M_equalize_143 : decode prog_13_method_31_code 143 = .ok (.istore 11, 2) := by decide +kernel
theorem d_M_equalize_145 : decode prog_13_method_31_code 145 = .ok (.iload 10, 2) := by decide +kernel
theorem d_M_equalize_147 : decode prog_13_method_31_code 147 = .ok (.ifCond .eq 20, 3) := by decide +kernel
theorem d_M_equalize_150 : decode prog_13_method_31_code 150 = .ok (.bipush 8, 2) := by decide +kernel
theorem d_M_equalize_152 : decode prog_13_method_31_code 152 = .ok (.iload 7, 2) := by decide +kernel
theorem d_M_equalize_154 : decode prog_13_method_31_code 154 = .ok (.imul, 1) := by decide +kernel
theorem d_M_equalize_155 : decode prog_13_method_31_code 155 = .ok (.aload_n 0, 1) := by decide +kernel
theorem d_M_equalize_156 : decode prog_13_method_31_code 156 = .ok (.getfield 47, 3) := by decide +kernel
theorem d_M_equalize_159 : decode prog_13_method_31_code 159 = .ok (.iload 6, 2) := by decide +kernel
theorem d_M_equalize_161 : decode prog_13_method_31_code 161 = .ok (.laload, 1) := by decide +kernel
theorem d_M_equalize_162 : decode prog_13_method_31_code 162 = .ok (.l2i, 1) := by decide +kernel
theorem d_M_equalize_163 : decode prog_13_method_31_code 163 = .ok (.iadd, 1) := by decide +kernel
theorem d_M_equalize_164 : decode prog_13_method_31_code 164 = .ok (.goto 4, 3) := by decide +kernel
theorem d_M_equalize_167 : decode prog_13_method_31_code 167 = .ok (.iconst (-1), 1) := by decide +kernel
theorem d_M_equalize_168 : decode prog_13_method_31_code 168 = .ok (.istore 12, 2) := by decide +kernel
theorem d_M_equalize_170 : decode prog_13_method_31_code 170 = .ok (.iload 11, 2) := by decide +kernel
theorem d_M_equalize_172 : decode prog_13_method_31_code 172 = .ok (.ifCond .eq 20, 3) := by decide +kernel
theorem d_M_equalize_175 : decode prog_13_method_31_code 175 = .ok (.bipush 8, 2) := by decide +kernel
theorem d_M_equalize_177 : decode prog_13_method_31_code 177 = .ok (.iload 9, 2) := by decide +kernel
theorem d_M_equalize_179 : decode prog_13_method_31_code 179 = .ok (.imul, 1) := by decide +kernel
theorem d_M_equalize_180 : decode prog_13_method_31_code 180 = .ok (.aload_n 0, 1) := by decide +kernel
theorem d_M_equalize_181 : decode prog_13_method_31_code 181 = .ok (.getfield 47, 3) := by decide +kernel
theorem d_M_equalize_184 : decode prog_13_method_31_code 184 = .ok (.iload 8, 2) := by decide +kernel
theorem d_M_equalize_186 : decode prog_13_method_31_code 186 = .ok (.laload, 1) := by decide +kernel
theorem d_M_equalize_187 : decode prog_13_method_31_code 187 = .ok (.l2i, 1) := by decide +kernel
theorem d_M_equalize_188 : decode prog_13_method_31_code 188 = .ok (.iadd, 1) := by decide +kernel
theorem d_M_equalize_189 : decode prog_13_method_31_code 189 = .ok (.goto 4, 3) := by decide +kernel
theorem d_M_equalize_192 : decode prog_13_method_31_code 192 = .ok (.iconst (-1), 1) := by decide +kernel
theorem d_M_equalize_193 : decode prog_13_method_31_code 193 = .ok (.istore 13, 2) := by decide +kernel
theorem d_M_equalize_195 : decode prog_13_method_31_code 195 = .ok (.iload 10, 2) := by decide +kernel
theorem d_M_equalize_197 : decode prog_13_method_31_code 197 = .ok (.ifCond .eq 19, 3) := by decide +kernel
theorem d_M_equalize_200 : decode prog_13_method_31_code 200 = .ok (.iload 11, 2) := by decide +kernel
theorem d_M_equalize_202 : decode prog_13_method_31_code 202 = .ok (.ifCond .eq 14, 3) := by decide +kernel
theorem d_M_equalize_205 : decode prog_13_method_31_code 205 = .ok (.iload 12, 2) := by decide +kernel
theorem d_M_equalize_207 : decode prog_13_method_31_code 207 = .ok (.iload 13, 2) := by decide +kernel
theorem d_M_equalize_209 : decode prog_13_method_31_code 209 = .ok (.if_icmp .ne 7, 3) := by decide +kernel
theorem d_M_equalize_212 : decode prog_13_method_31_code 212 = .ok (.iconst 1, 1) := by decide +kernel
theorem d_M_equalize_213 : decode prog_13_method_31_code 213 = .ok (.goto 4, 3) := by decide +kernel
theorem d_M_equalize_216 : decode prog_13_method_31_code 216 = .ok (.iconst 0, 1) := by decide +kernel
theorem d_M_equalize_217 : decode prog_13_method_31_code 217 = .ok (.istore 14, 2) := by decide +kernel
theorem d_M_equalize_219 : decode prog_13_method_31_code 219 = .ok (.iload 10, 2) := by decide +kernel
theorem d_M_equalize_221 : decode prog_13_method_31_code 221 = .ok (.ifCond .ne 8, 3) := by decide +kernel
theorem d_M_equalize_224 : decode prog_13_method_31_code 224 = .ok (.iload 11, 2) := by decide +kernel
theorem d_M_equalize_226 : decode prog_13_method_31_code 226 = .ok (.ifCond .eq 7, 3) := by decide +kernel
theorem d_M_equalize_229 : decode prog_13_method_31_code 229 = .ok (.iconst 1, 1) := by decide +kernel
theorem d_M_equalize_230 : decode prog_13_method_31_code 230 = .ok (.goto 4, 3) := by decide +kernel
theorem d_M_equalize_233 : decode prog_13_method_31_code 233 = .ok (.iconst 0, 1) := by decide +kernel
theorem d_M_equalize_234 : decode prog_13_method_31_code 234 = .ok (.istore 15, 2) := by decide +kernel
theorem d_M_equalize_236 : decode prog_13_method_31_code 236 = .ok (.iload 15, 2) := by decide +kernel
theorem d_M_equalize_238 : decode prog_13_method_31_code 238 = .ok (.ifCond .eq 48, 3) := by decide +kernel
theorem d_M_equalize_241 : decode prog_13_method_31_code 241 = .ok (.iload 14, 2) := by decide +kernel
theorem d_M_equalize_243 : decode prog_13_method_31_code 243 = .ok (.ifCond .ne 43, 3) := by decide +kernel
theorem d_M_equalize_246 : decode prog_13_method_31_code 246 = .ok (.iload 10, 2) := by decide +kernel
theorem d_M_equalize_248 : decode prog_13_method_31_code 248 = .ok (.ifCond .eq 21, 3) := by decide +kernel
theorem d_M_equalize_251 : decode prog_13_method_31_code 251 = .ok (.aload_n 0, 1) := by decide +kernel
theorem d_M_equalize_252 : decode prog_13_method_31_code 252 = .ok (.iload 12, 2) := by decide +kernel
theorem d_M_equalize_254 : decode prog_13_method_31_code 254 = .ok (.iload 8, 2) := by decide +kernel
theorem d_M_equalize_256 : decode prog_13_method_31_code 256 = .ok (.iload 9, 2) := by decide +kernel
theorem d_M_equalize_258 : decode prog_13_method_31_code 258 = .ok (.iload 5, 2) := by decide +kernel
theorem d_M_equalize_260 : decode prog_13_method_31_code 260 = .ok (.invokevirtual 262, 3) := by decide +kernel
theorem d_M_equalize_263 : decode prog_13_method_31_code 263 = .ok (.ifCond .eq 21, 3) := by decide +kernel
theorem d_M_equalize_266 : decode prog_13_method_31_code 266 = .ok (.goto 20, 3) := by decide +kernel
theorem d_M_equalize_269 : decode prog_13_method_31_code 269 = .ok (.aload_n 0, 1) := by decide +kernel
theorem d_M_equalize_270 : decode prog_13_method_31_code 270 = .ok (.iload 13, 2) := by decide +kernel
theorem d_M_equalize_272 : decode prog_13_method_31_code 272 = .ok (.iload 6, 2) := by decide +kernel
theorem d_M_equalize_274 : decode prog_13_method_31_code 274 = .ok (.iload 7, 2) := by decide +kernel
theorem d_M_equalize_276 : decode prog_13_method_31_code 276 = .ok (.iload 5, 2) := by decide +kernel
theorem d_M_equalize_278 : decode prog_13_method_31_code 278 = .ok (.invokevirtual 262, 3) := by decide +kernel
theorem d_M_equalize_281 : decode prog_13_method_31_code 281 = .ok (.ifCond .ne 5, 3) := by decide +kernel
theorem d_M_equalize_284 : decode prog_13_method_31_code 284 = .ok (.iconst 0, 1) := by decide +kernel
theorem d_M_equalize_285 : decode prog_13_method_31_code 285 = .ok (.ireturn, 1) := by decide +kernel
theorem d_M_equalize_286 : decode prog_13_method_31_code 286 = .ok (.iload 15, 2) := by decide +kernel
theorem d_M_equalize_288 : decode prog_13_method_31_code 288 = .ok (.ifCond .ne 40, 3) := by decide +kernel
theorem d_M_equalize_291 : decode prog_13_method_31_code 291 = .ok (.aload_n 0, 1) := by decide +kernel
theorem d_M_equalize_292 : decode prog_13_method_31_code 292 = .ok (.getfield 47, 3) := by decide +kernel
theorem d_M_equalize_295 : decode prog_13_method_31_code 295 = .ok (.iload 6, 2) := by decide +kernel
theorem d_M_equalize_297 : decode prog_13_method_31_code 297 = .ok (.laload, 1) := by decide +kernel
theorem d_M_equalize_298 : decode prog_13_method_31_code 298 = .ok (.aload_n 0, 1) := by decide +kernel
theorem d_M_equalize_299 : decode prog_13_method_31_code 299 = .ok (.getfield 47, 3) := by decide +kernel
theorem d_M_equalize_302 : decode prog_13_method_31_code 302 = .ok (.iload 8, 2) := by decide +kernel
theorem d_M_equalize_304 : decode prog_13_method_31_code 304 = .ok (.laload, 1) := by decide +kernel
theorem d_M_equalize_305 : decode prog_13_method_31_code 305 = .ok (.lcmp, 1) := by decide +kernel
theorem d_M_equalize_306 : decode prog_13_method_31_code 306 = .ok (.ifCond .ne 20, 3) := by decide +kernel
theorem d_M_equalize_309 : decode prog_13_method_31_code 309 = .ok (.aload_n 0, 1) := by decide +kernel
theorem d_M_equalize_310 : decode prog_13_method_31_code 310 = .ok (.getfield 50, 3) := by decide +kernel
theorem d_M_equalize_313 : decode prog_13_method_31_code 313 = .ok (.iload 6, 2) := by decide +kernel
theorem d_M_equalize_315 : decode prog_13_method_31_code 315 = .ok (.iaload, 1) := by decide +kernel
theorem d_M_equalize_316 : decode prog_13_method_31_code 316 = .ok (.aload_n 0, 1) := by decide +kernel
theorem d_M_equalize_317 : decode prog_13_method_31_code 317 = .ok (.getfield 50, 3) := by decide +kernel
theorem d_M_equalize_320 : decode prog_13_method_31_code 320 = .ok (.iload 8, 2) := by decide +kernel
theorem d_M_equalize_322 : decode prog_13_method_31_code 322 = .ok (.iaload, 1) := by decide +kernel
theorem d_M_equalize_323 : decode prog_13_method_31_code 323 = .ok (.if_icmp .eq 5, 3) := by decide +kernel
theorem d_M_equalize_326 : decode prog_13_method_31_code 326 = .ok (.iconst 0, 1) := by decide +kernel
theorem d_M_equalize_327 : decode prog_13_method_31_code 327 = .ok (.ireturn, 1) := by decide +kernel
theorem d_M_equalize_328 : decode prog_13_method_31_code 328 = .ok (.iload 6, 2) := by decide +kernel
theorem d_M_equalize_330 : decode prog_13_method_31_code 330 = .ok (.iconst 1, 1) := by decide +kernel
theorem d_M_equalize_331 : decode prog_13_method_31_code 331 = .ok (.iadd, 1) := by decide +kernel
theorem d_M_equalize_332 : decode prog_13_method_31_code 332 = .ok (.istore 16, 2) := by decide +kernel
theorem d_M_equalize_334 : decode prog_13_method_31_code 334 = .ok (.iload 8, 2) := by decide +kernel
theorem d_M_equalize_336 : decode prog_13_method_31_code 336 = .ok (.iconst 1, 1) := by decide +kernel
theorem d_M_equalize_337 : decode prog_13_method_31_code 337 = .ok (.iadd, 1) := by decide +kernel
theorem d_M_equalize_338 : decode prog_13_method_31_code 338 = .ok (.istore 17, 2) := by decide +kernel
theorem d_M_equalize_340 : decode prog_13_method_31_code 340 = .ok (.iconst 0, 1) := by decide +kernel
theorem d_M_equalize_341 : decode prog_13_method_31_code 341 = .ok (.istore 18, 2) := by decide +kernel
theorem d_M_equalize_343 : decode prog_13_method_31_code 343 = .ok (.iload 18, 2) := by decide +kernel
theorem d_M_equalize_345 : decode prog_13_method_31_code 345 = .ok (.aload_n 0, 1) := by decide +kernel
theorem d_M_equalize_346 : decode prog_13_method_31_code 346 = .ok (.getfield 50, 3) := by decide +kernel
theorem d_M_equalize_349 : decode prog_13_method_31_code 349 = .ok (.iload 6, 2) := by decide +kernel
theorem d_M_equalize_351 : decode prog_13_method_31_code 351 = .ok (.iaload, 1) := by decide +kernel
theorem d_M_equalize_352 : decode prog_13_method_31_code 352 = .ok (.if_icmp .ge 78, 3) := by decide +kernel
theorem d_M_equalize_355 : decode prog_13_method_31_code 355 = .ok (.iload 15, 2) := by decide +kernel
theorem d_M_equalize_357 : decode prog_13_method_31_code 357 = .ok (.ifCond .ne 73, 3) := by decide +kernel
theorem d_M_equalize_360 : decode prog_13_method_31_code 360 = .ok (.aload_n 0, 1) := by decide +kernel
theorem d_M_equalize_361 : decode prog_13_method_31_code 361 = .ok (.getfield 95, 3) := by decide +kernel
theorem d_M_equalize_364 : decode prog_13_method_31_code 364 = .ok (.iload 5, 2) := by decide +kernel
theorem d_M_equalize_366 : decode prog_13_method_31_code 366 = .ok (.iload 16, 2) := by decide +kernel
theorem d_M_equalize_368 : decode prog_13_method_31_code 368 = .ok (.iastore, 1) := by decide +kernel
theorem d_M_equalize_369 : decode prog_13_method_31_code 369 = .ok (.aload_n 0, 1) := by decide +kernel
theorem d_M_equalize_370 : decode prog_13_method_31_code 370 = .ok (.getfield 95, 3) := by decide +kernel
theorem d_M_equalize_373 : decode prog_13_method_31_code 373 = .ok (.iload 5, 2) := by decide +kernel
theorem d_M_equalize_375 : decode prog_13_method_31_code 375 = .ok (.iconst 1, 1) := by decide +kernel
theorem d_M_equalize_376 : decode prog_13_method_31_code 376 = .ok (.iadd, 1) := by decide +kernel
theorem d_M_equalize_377 : decode prog_13_method_31_code 377 = .ok (.iload 7, 2) := by decide +kernel
theorem d_M_equalize_379 : decode prog_13_method_31_code 379 = .ok (.iastore, 1) := by decide +kernel
theorem d_M_equalize_380 : decode prog_13_method_31_code 380 = .ok (.aload_n 0, 1) := by decide +kernel
theorem d_M_equalize_381 : decode prog_13_method_31_code 381 = .ok (.getfield 95, 3) := by decide +kernel
theorem d_M_equalize_384 : decode prog_13_method_31_code 384 = .ok (.iload 5, 2) := by decide +kernel
theorem d_M_equalize_386 : decode prog_13_method_31_code 386 = .ok (.iconst 2, 1) := by decide +kernel
theorem d_M_equalize_387 : decode prog_13_method_31_code 387 = .ok (.iadd, 1) := by decide +kernel
theorem d_M_equalize_388 : decode prog_13_method_31_code 388 = .ok (.iload 17, 2) := by decide +kernel
theorem d_M_equalize_390 : decode prog_13_method_31_code 390 = .ok (.iastore, 1) := by decide +kernel
theorem d_M_equalize_391 : decode prog_13_method_31_code 391 = .ok (.aload_n 0, 1) := by decide +kernel
theorem d_M_equalize_392 : decode prog_13_method_31_code 392 = .ok (.getfield 95, 3) := by decide +kernel
theorem d_M_equalize_395 : decode prog_13_method_31_code 395 = .ok (.iload 5, 2) := by decide +kernel
theorem d_M_equalize_397 : decode prog_13_method_31_code 397 = .ok (.iconst 3, 1) := by decide +kernel
theorem d_M_equalize_398 : decode prog_13_method_31_code 398 = .ok (.iadd, 1) := by decide +kernel
theorem d_M_equalize_399 : decode prog_13_method_31_code 399 = .ok (.iload 9, 2) := by decide +kernel
theorem d_M_equalize_401 : decode prog_13_method_31_code 401 = .ok (.iastore, 1) := by decide +kernel
theorem d_M_equalize_402 : decode prog_13_method_31_code 402 = .ok (.iload 5, 2) := by decide +kernel
theorem d_M_equalize_404 : decode prog_13_method_31_code 404 = .ok (.iconst 4, 1) := by decide +kernel
theorem d_M_equalize_405 : decode prog_13_method_31_code 405 = .ok (.iadd, 1) := by decide +kernel
theorem d_M_equalize_406 : decode prog_13_method_31_code 406 = .ok (.istore 5, 2) := by decide +kernel
theorem d_M_equalize_408 : decode prog_13_method_31_code 408 = .ok (.aload_n 0, 1) := by decide +kernel
theorem d_M_equalize_409 : decode prog_13_method_31_code 409 = .ok (.iload 16, 2) := by decide +kernel
theorem d_M_equalize_411 : decode prog_13_method_31_code 411 = .ok (.invokevirtual 247, 3) := by decide +kernel
theorem d_M_equalize_414 : decode prog_13_method_31_code 414 = .ok (.istore 16, 2) := by decide +kernel
theorem d_M_equalize_416 : decode prog_13_method_31_code 416 = .ok (.aload_n 0, 1) := by decide +kernel
theorem d_M_equalize_417 : decode prog_13_method_31_code 417 = .ok (.iload 17, 2) := by decide +kernel
theorem d_M_equalize_419 : decode prog_13_method_31_code 419 = .ok (.invokevirtual 247, 3) := by decide +kernel
theorem d_M_equalize_422 : decode prog_13_method_31_code 422 = .ok (.istore 17, 2) := by decide +kernel
theorem d_M_equalize_424 : decode prog_13_method_31_code 424 = .ok (.iinc 18 1, 3) := by decide +kernel
theorem d_M_equalize_427 : decode prog_13_method_31_code 427 = .ok (.goto (-84), 3) := by decide +kernel
theorem d_M_equalize_430 : decode prog_13_method_31_code 430 = .ok (.goto (-398), 3) := by decide +kernel
theorem d_M_equalize_433 : decode prog_13_method_31_code 433 = .ok (.iconst 1, 1) := by decide +kernel
theorem d_M_equalize_434 : decode prog_13_method_31_code 434 = .ok (.ireturn, 1) := by decide +kernel
theorem d_M_symbolsOf_0 : decode prog_13_method_28_code 0 = .ok (.iconst 0, 1) := by decide +kernel
theorem d_M_symbolsOf_1 : decode prog_13_method_28_code 1 = .ok (.istore_n 3, 1) := by decide +kernel
theorem d_M_symbolsOf_2 : decode prog_13_method_28_code 2 = .ok (.aload_n 0, 1) := by decide +kernel
theorem d_M_symbolsOf_3 : decode prog_13_method_28_code 3 = .ok (.getfield 95, 3) := by decide +kernel
theorem d_M_symbolsOf_6 : decode prog_13_method_28_code 6 = .ok (.iconst 0, 1) := by decide +kernel
theorem d_M_symbolsOf_7 : decode prog_13_method_28_code 7 = .ok (.iload_n 1, 1) := by decide +kernel
theorem d_M_symbolsOf_8 : decode prog_13_method_28_code 8 = .ok (.iastore, 1) := by decide +kernel
theorem d_M_symbolsOf_9 : decode prog_13_method_28_code 9 = .ok (.aload_n 0, 1) := by decide +kernel
theorem d_M_symbolsOf_10 : decode prog_13_method_28_code 10 = .ok (.getfield 95, 3) := by decide +kernel
theorem d_M_symbolsOf_13 : decode prog_13_method_28_code 13 = .ok (.iconst 1, 1) := by decide +kernel
theorem d_M_symbolsOf_14 : decode prog_13_method_28_code 14 = .ok (.iload_n 2, 1) := by decide +kernel
theorem d_M_symbolsOf_15 : decode prog_13_method_28_code 15 = .ok (.iastore, 1) := by decide +kernel
theorem d_M_symbolsOf_16 : decode prog_13_method_28_code 16 = .ok (.iconst 2, 1) := by decide +kernel
theorem d_M_symbolsOf_17 : decode prog_13_method_28_code 17 = .ok (.istore 4, 2) := by decide +kernel
theorem d_M_symbolsOf_19 : decode prog_13_method_28_code 19 = .ok (.iload 4, 2) := by decide +kernel
theorem d_M_symbolsOf_21 : decode prog_13_method_28_code 21 = .ok (.ifCond .le 56, 3) := by decide +kernel
theorem d_M_symbolsOf_24 : decode prog_13_method_28_code 24 = .ok (.iload_n 3, 1) := by decide +kernel
theorem d_M_symbolsOf_25 : decode prog_13_method_28_code 25 = .ok (.bipush 121, 2) := by decide +kernel
theorem d_M_symbolsOf_27 : decode prog_13_method_28_code 27 = .ok (.if_icmp .ge 50, 3) := by decide +kernel
theorem d_M_symbolsOf_30 : decode prog_13_method_28_code 30 = .ok (.aload_n 0, 1) := by decide +kernel
theorem d_M_symbolsOf_31 : decode prog_13_method_28_code 31 = .ok (.aload_n 0, 1) := by decide +kernel
theorem d_M_symbolsOf_32 : decode prog_13_method_28_code 32 = .ok (.getfield 95, 3) := by decide +kernel
theorem d_M_symbolsOf_35 : decode prog_13_method_28_code 35 = .ok (.iload 4, 2) := by decide +kernel
theorem d_M_symbolsOf_37 : decode prog_13_method_28_code 37 = .ok (.iconst 2, 1) := by decide +kernel
theorem d_M_symbolsOf_38 : decode prog_13_method_28_code 38 = .ok (.isub, 1) := by decide +kernel
theorem d_M_symbolsOf_39 : decode prog_13_method_28_code 39 = .ok (.iaload, 1) := by decide +kernel
theorem d_M_symbolsOf_40 : decode prog_13_method_28_code 40 = .ok (.aload_n 0, 1) := by decide +kernel
theorem d_M_symbolsOf_41 : decode prog_13_method_28_code 41 = .ok (.getfield 95, 3) := by decide +kernel
theorem d_M_symbolsOf_44 : decode prog_13_method_28_code 44 = .ok (.iload 4, 2) := by decide +kernel
theorem d_M_symbolsOf_46 : decode prog_13_method_28_code 46 = .ok (.iconst 1, 1) := by decide +kernel
theorem d_M_symbolsOf_47 : decode prog_13_method_28_code 47 = .ok (.isub, 1) := by decide +kernel
theorem d_M_symbolsOf_48 : decode prog_13_method_28_code 48 = .ok (.iaload, 1) := by decide +kernel
theorem d_M_symbolsOf_49 : decode prog_13_method_28_code 49 = .ok (.invokevirtual 250, 3) := by decide +kernel
theorem d_M_symbolsOf_52 : decode prog_13_method_28_code 52 = .ok (.iload_n 3, 1) := by decide +kernel
theorem d_M_symbolsOf_53 : decode prog_13_method_28_code 53 = .ok (.iconst 1, 1) := by decide +kernel
theorem d_M_symbolsOf_54 : decode prog_13_method_28_code 54 = .ok (.iadd, 1) := by decide +kernel
theorem d_M_symbolsOf_55 : decode prog_13_method_28_code 55 = .ok (.istore_n 3, 1) := by decide +kernel
theorem d_M_symbolsOf_56 : decode prog_13_method_28_code 56 = .ok (.aload_n 0, 1) := by decide +kernel
theorem d_M_symbolsOf_57 : decode prog_13_method_28_code 57 = .ok (.aload_n 0, 1) := by decide +kernel
theorem d_M_symbolsOf_58 : decode prog_13_method_28_code 58 = .ok (.getfield 241, 3) := by decide +kernel
theorem d_M_symbolsOf_61 : decode prog_13_method_28_code 61 = .ok (.aload_n 0, 1) := by decide +kernel
theorem d_M_symbolsOf_62 : decode prog_13_method_28_code 62 = .ok (.getfield 244, 3) := by decide +kernel
theorem d_M_symbolsOf_65 : decode prog_13_method_28_code 65 = .ok (.iload 4, 2) := by decide +kernel
theorem d_M_symbolsOf_67 : decode prog_13_method_28_code 67 = .ok (.iconst 2, 1) := by decide +kernel
theorem d_M_symbolsOf_68 : decode prog_13_method_28_code 68 = .ok (.isub, 1) := by decide +kernel
theorem d_M_symbolsOf_69 : decode prog_13_method_28_code 69 = .ok (.invokevirtual 254, 3) := by decide +kernel
theorem d_M_symbolsOf_72 : decode prog_13_method_28_code 72 = .ok (.istore 4, 2) := by decide +kernel
theorem d_M_symbolsOf_74 : decode prog_13_method_28_code 74 = .ok (.goto (-55), 3) := by decide +kernel
theorem d_M_symbolsOf_77 : decode prog_13_method_28_code 77 = .ok (.iload_n 3, 1) := by decide +kernel
theorem d_M_symbolsOf_78 : decode prog_13_method_28_code 78 = .ok (.ireturn, 1) := by decide +kernel
theorem d_M_large_0 : decode prog_13_method_39_code 0 = .ok (.iconst 0, 1) := by decide +kernel
theorem d_M_large_1 : decode prog_13_method_39_code 1 = .ok (.istore_n 1, 1) := by decide +kernel
theorem d_M_large_2 : decode prog_13_method_39_code 2 = .ok (.iconst 0, 1) := by decide +kernel
theorem d_M_large_3 : decode prog_13_method_39_code 3 = .ok (.istore_n 2, 1) := by decide +kernel
theorem d_M_large_4 : decode prog_13_method_39_code 4 = .ok (.iload_n 2, 1) := by decide +kernel
theorem d_M_large_5 : decode prog_13_method_39_code 5 = .ok (.aload_n 0, 1) := by decide +kernel
theorem d_M_large_6 : decode prog_13_method_39_code 6 = .ok (.getfield 211, 3) := by decide +kernel
theorem d_M_large_9 : decode prog_13_method_39_code 9 = .ok (.if_icmp .ge 54, 3) := by decide +kernel
theorem d_M_large_12 : decode prog_13_method_39_code 12 = .ok (.iload_n 1, 1) := by decide +kernel
theorem d_M_large_13 : decode prog_13_method_39_code 13 = .ok (.bipush 121, 2) := by decide +kernel
theorem d_M_large_15 : decode prog_13_method_39_code 15 = .ok (.if_icmp .ge 48, 3) := by decide +kernel
theorem d_M_large_18 : decode prog_13_method_39_code 18 = .ok (.iload_n 1, 1) := by decide +kernel
theorem d_M_large_19 : decode prog_13_method_39_code 19 = .ok (.aload_n 0, 1) := by decide +kernel
theorem d_M_large_20 : decode prog_13_method_39_code 20 = .ok (.getfield 50, 3) := by decide +kernel
theorem d_M_large_23 : decode prog_13_method_39_code 23 = .ok (.aload_n 0, 1) := by decide +kernel
theorem d_M_large_24 : decode prog_13_method_39_code 24 = .ok (.getfield 80, 3) := by decide +kernel
theorem d_M_large_27 : decode prog_13_method_39_code 27 = .ok (.iload_n 2, 1) := by decide +kernel
theorem d_M_large_28 : decode prog_13_method_39_code 28 = .ok (.iaload, 1) := by decide +kernel
theorem d_M_large_29 : decode prog_13_method_39_code 29 = .ok (.iaload, 1) := by decide +kernel
theorem d_M_large_30 : decode prog_13_method_39_code 30 = .ok (.bipush (-2), 2) := by decide +kernel
theorem d_M_large_32 : decode prog_13_method_39_code 32 = .ok (.if_icmp .ne 7, 3) := by decide +kernel
theorem d_M_large_35 : decode prog_13_method_39_code 35 = .ok (.iconst 1, 1) := by decide +kernel
theorem d_M_large_36 : decode prog_13_method_39_code 36 = .ok (.goto 19, 3) := by decide +kernel
theorem d_M_large_39 : decode prog_13_method_39_code 39 = .ok (.aload_n 0, 1) := by decide +kernel
theorem d_M_large_40 : decode prog_13_method_39_code 40 = .ok (.aload_n 0, 1) := by decide +kernel
theorem d_M_large_41 : decode prog_13_method_39_code 41 = .ok (.getfield 80, 3) := by decide +kernel
theorem d_M_large_44 : decode prog_13_method_39_code 44 = .ok (.iload_n 2, 1) := by decide +kernel
theorem d_M_large_45 : decode prog_13_method_39_code 45 = .ok (.iaload, 1) := by decide +kernel
theorem d_M_large_46 : decode prog_13_method_39_code 46 = .ok (.aload_n 0, 1) := by decide +kernel
theorem d_M_large_47 : decode prog_13_method_39_code 47 = .ok (.getfield 83, 3) := by decide +kernel
theorem d_M_large_50 : decode prog_13_method_39_code 50 = .ok (.iload_n 2, 1) := by decide +kernel
theorem d_M_large_51 : decode prog_13_method_39_code 51 = .ok (.iaload, 1) := by decide +kernel
theorem d_M_large_52 : decode prog_13_method_39_code 52 = .ok (.invokevirtual 284, 3) := by decide +kernel
theorem d_M_large_55 : decode prog_13_method_39_code 55 = .ok (.iadd, 1) := by decide +kernel
theorem d_M_large_56 : decode prog_13_method_39_code 56 = .ok (.istore_n 1, 1) := by decide +kernel
theorem d_M_large_57 : decode prog_13_method_39_code 57 = .ok (.iinc 2 1, 3) := by decide +kernel
theorem d_M_large_60 : decode prog_13_method_39_code 60 = .ok (.goto (-56), 3) := by decide +kernel
theorem d_M_large_63 : decode prog_13_method_39_code 63 = .ok (.iconst 0, 1) := by decide +kernel
theorem d_M_large_64 : decode prog_13_method_39_code 64 = .ok (.istore_n 2, 1) := by decide +kernel
theorem d_M_large_65 : decode prog_13_method_39_code 65 = .ok (.iload_n 2, 1) := by decide +kernel
theorem d_M_large_66 : decode prog_13_method_39_code 66 = .ok (.aload_n 0, 1) := by decide +kernel
theorem d_M_large_67 : decode prog_13_method_39_code 67 = .ok (.getfield 235, 3) := by decide +kernel
theorem d_M_large_70 : decode prog_13_method_39_code 70 = .ok (.if_icmp .ge 29, 3) := by decide +kernel
theorem d_M_large_73 : decode prog_13_method_39_code 73 = .ok (.iload_n 1, 1) := by decide +kernel
theorem d_M_large_74 : decode prog_13_method_39_code 74 = .ok (.bipush 121, 2) := by decide +kernel
theorem d_M_large_76 : decode prog_13_method_39_code 76 = .ok (.if_icmp .ge 23, 3) := by decide +kernel
theorem d_M_large_79 : decode prog_13_method_39_code 79 = .ok (.iload_n 1, 1) := by decide +kernel
theorem d_M_large_80 : decode prog_13_method_39_code 80 = .ok (.aload_n 0, 1) := by decide +kernel
theorem d_M_large_81 : decode prog_13_method_39_code 81 = .ok (.aload_n 0, 1) := by decide +kernel
theorem d_M_large_82 : decode prog_13_method_39_code 82 = .ok (.getfield 65, 3) := by decide +kernel
theorem d_M_large_85 : decode prog_13_method_39_code 85 = .ok (.iload_n 2, 1) := by decide +kernel
theorem d_M_large_86 : decode prog_13_method_39_code 86 = .ok (.iaload, 1) := by decide +kernel
theorem d_M_large_87 : decode prog_13_method_39_code 87 = .ok (.iconst 0, 1) := by decide +kernel
theorem d_M_large_88 : decode prog_13_method_39_code 88 = .ok (.invokevirtual 284, 3) := by decide +kernel
theorem d_M_large_91 : decode prog_13_method_39_code 91 = .ok (.iadd, 1) := by decide +kernel
theorem d_M_large_92 : decode prog_13_method_39_code 92 = .ok (.istore_n 1, 1) := by decide +kernel
theorem d_M_large_93 : decode prog_13_method_39_code 93 = .ok (.iinc 2 1, 3) := by decide +kernel
theorem d_M_large_96 : decode prog_13_method_39_code 96 = .ok (.goto (-31), 3) := by decide +kernel
theorem d_M_large_99 : decode prog_13_method_39_code 99 = .ok (.iload_n 1, 1) := by decide +kernel
theorem d_M_large_100 : decode prog_13_method_39_code 100 = .ok (.bipush 120, 2) := by decide +kernel
theorem d_M_large_102 : decode prog_13_method_39_code 102 = .ok (.if_icmp .le 7, 3) := by decide +kernel
theorem d_M_large_105 : decode prog_13_method_39_code 105 = .ok (.iconst 1, 1) := by decide +kernel
theorem d_M_large_106 : decode prog_13_method_39_code 106 = .ok (.goto 4, 3) := by decide +kernel
theorem d_M_large_109 : decode prog_13_method_39_code 109 = .ok (.iconst 0, 1) := by decide +kernel
theorem d_M_large_110 : decode prog_13_method_39_code 110 = .ok (.ireturn, 1) := by decide +kernel
theorem d_M_resolve_0 : decode prog_13_method_41_code 0 = .ok (.aload_n 0, 1) := by decide +kernel
theorem d_M_resolve_1 : decode prog_13_method_41_code 1 = .ok (.getfield 80, 3) := by decide +kernel
theorem d_M_resolve_4 : decode prog_13_method_41_code 4 = .ok (.aload_n 0, 1) := by decide +kernel
theorem d_M_resolve_5 : decode prog_13_method_41_code 5 = .ok (.getfield 211, 3) := by decide +kernel
theorem d_M_resolve_8 : decode prog_13_method_41_code 8 = .ok (.iaload, 1) := by decide +kernel
theorem d_M_resolve_9 : decode prog_13_method_41_code 9 = .ok (.istore_n 3, 1) := by decide +kernel
theorem d_M_resolve_10 : decode prog_13_method_41_code 10 = .ok (.aload_n 0, 1) := by decide +kernel
theorem d_M_resolve_11 : decode prog_13_method_41_code 11 = .ok (.getfield 83, 3) := by decide +kernel
theorem d_M_resolve_14 : decode prog_13_method_41_code 14 = .ok (.aload_n 0, 1) := by decide +kernel
theorem d_M_resolve_15 : decode prog_13_method_41_code 15 = .ok (.getfield 211, 3) := by decide +kernel
theorem d_M_resolve_18 : decode prog_13_method_41_code 18 = .ok (.iaload, 1) := by decide +kernel
theorem d_M_resolve_19 : decode prog_13_method_41_code 19 = .ok (.istore 4, 2) := by decide +kernel
theorem d_M_resolve_21 : decode prog_13_method_41_code 21 = .ok (.aload_n 0, 1) := by decide +kernel
theorem d_M_resolve_22 : decode prog_13_method_41_code 22 = .ok (.getfield 68, 3) := by decide +kernel
theorem d_M_resolve_25 : decode prog_13_method_41_code 25 = .ok (.aload_n 0, 1) := by decide +kernel
theorem d_M_resolve_26 : decode prog_13_method_41_code 26 = .ok (.getfield 205, 3) := by decide +kernel
theorem d_M_resolve_29 : decode prog_13_method_41_code 29 = .ok (.iload_n 1, 1) := by decide +kernel
theorem d_M_resolve_30 : decode prog_13_method_41_code 30 = .ok (.iastore, 1) := by decide +kernel
theorem d_M_resolve_31 : decode prog_13_method_41_code 31 = .ok (.aload_n 0, 1) := by decide +kernel
theorem d_M_resolve_32 : decode prog_13_method_41_code 32 = .ok (.getfield 71, 3) := by decide +kernel
theorem d_M_resolve_35 : decode prog_13_method_41_code 35 = .ok (.aload_n 0, 1) := by decide +kernel
theorem d_M_resolve_36 : decode prog_13_method_41_code 36 = .ok (.getfield 205, 3) := by decide +kernel
theorem d_M_resolve_39 : decode prog_13_method_41_code 39 = .ok (.iload_n 2, 1) := by decide +kernel
theorem d_M_resolve_40 : decode prog_13_method_41_code 40 = .ok (.iastore, 1) := by decide +kernel
theorem d_M_resolve_41 : decode prog_13_method_41_code 41 = .ok (.aload_n 0, 1) := by decide +kernel
theorem d_M_resolve_42 : decode prog_13_method_41_code 42 = .ok (.aload_n 0, 1) := by decide +kernel
theorem d_M_resolve_43 : decode prog_13_method_41_code 43 = .ok (.getfield 205, 3) := by decide +kernel
theorem d_M_resolve_46 : decode prog_13_method_41_code 46 = .ok (.iconst 1, 1) := by decide +kernel
theorem d_M_resolve_47 : decode prog_13_method_41_code 47 = .ok (.iadd, 1) := by decide +kernel
theorem d_M_resolve_48 : decode prog_13_method_41_code 48 = .ok (.putfield 205, 3) := by decide +kernel
theorem d_M_resolve_51 : decode prog_13_method_41_code 51 = .ok (.aload_n 0, 1) := by decide +kernel
theorem d_M_resolve_52 : decode prog_13_method_41_code 52 = .ok (.aload_n 0, 1) := by decide +kernel
theorem d_M_resolve_53 : decode prog_13_method_41_code 53 = .ok (.getfield 202, 3) := by decide +kernel
theorem d_M_resolve_56 : decode prog_13_method_41_code 56 = .ok (.iconst 1, 1) := by decide +kernel
theorem d_M_resolve_57 : decode prog_13_method_41_code 57 = .ok (.iadd, 1) := by decide +kernel
theorem d_M_resolve_58 : decode prog_13_method_41_code 58 = .ok (.putfield 202, 3) := by decide +kernel
theorem d_M_resolve_61 : decode prog_13_method_41_code 61 = .ok (.aload_n 0, 1) := by decide +kernel
theorem d_M_resolve_62 : decode prog_13_method_41_code 62 = .ok (.aload_n 0, 1) := by decide +kernel
theorem d_M_resolve_63 : decode prog_13_method_41_code 63 = .ok (.getfield 205, 3) := by decide +kernel
theorem d_M_resolve_66 : decode prog_13_method_41_code 66 = .ok (.invokevirtual 265, 3) := by decide +kernel
theorem d_M_resolve_69 : decode prog_13_method_41_code 69 = .ok (.aload_n 0, 1) := by decide +kernel
theorem d_M_resolve_70 : decode prog_13_method_41_code 70 = .ok (.bipush 40, 2) := by decide +kernel
theorem d_M_resolve_72 : decode prog_13_method_41_code 72 = .ok (.iload_n 1, 1) := by decide +kernel
theorem d_M_resolve_73 : decode prog_13_method_41_code 73 = .ok (.imul, 1) := by decide +kernel
theorem d_M_resolve_74 : decode prog_13_method_41_code 74 = .ok (.aload_n 0, 1) := by decide +kernel
theorem d_M_resolve_75 : decode prog_13_method_41_code 75 = .ok (.getfield 205, 3) := by decide +kernel
theorem d_M_resolve_78 : decode prog_13_method_41_code 78 = .ok (.iload_n 3, 1) := by decide +kernel
theorem d_M_resolve_79 : decode prog_13_method_41_code 79 = .ok (.iload 4, 2) := by decide +kernel
theorem d_M_resolve_81 : decode prog_13_method_41_code 81 = .ok (.invokevirtual 281, 3) := by decide +kernel
theorem d_M_resolve_84 : decode prog_13_method_41_code 84 = .ok (.ifCond .ne 9, 3) := by decide +kernel
theorem d_M_resolve_87 : decode prog_13_method_41_code 87 = .ok (.aload_n 0, 1) := by decide +kernel
theorem d_M_resolve_88 : decode prog_13_method_41_code 88 = .ok (.iconst 3, 1) := by decide +kernel
theorem d_M_resolve_89 : decode prog_13_method_41_code 89 = .ok (.putfield 199, 3) := by decide +kernel
theorem d_M_resolve_92 : decode prog_13_method_41_code 92 = .ok (.return_, 1) := by decide +kernel
theorem d_M_resolve_93 : decode prog_13_method_41_code 93 = .ok (.aload_n 0, 1) := by decide +kernel
theorem d_M_resolve_94 : decode prog_13_method_41_code 94 = .ok (.iconst 1, 1) := by decide +kernel
theorem d_M_resolve_95 : decode prog_13_method_41_code 95 = .ok (.putfield 199, 3) := by decide +kernel
theorem d_M_resolve_98 : decode prog_13_method_41_code 98 = .ok (.aload_n 0, 1) := by decide +kernel
theorem d_M_resolve_99 : decode prog_13_method_41_code 99 = .ok (.iload_n 1, 1) := by decide +kernel
theorem d_M_resolve_100 : decode prog_13_method_41_code 100 = .ok (.aload_n 0, 1) := by decide +kernel
theorem d_M_resolve_101 : decode prog_13_method_41_code 101 = .ok (.getfield 205, 3) := by decide +kernel
theorem d_M_resolve_104 : decode prog_13_method_41_code 104 = .ok (.iload_n 2, 1) := by decide +kernel
theorem d_M_resolve_105 : decode prog_13_method_41_code 105 = .ok (.invokevirtual 269, 3) := by decide +kernel
theorem d_M_resolve_108 : decode prog_13_method_41_code 108 = .ok (.aload_n 0, 1) := by decide +kernel
theorem d_M_resolve_109 : decode prog_13_method_41_code 109 = .ok (.invokevirtual 291, 3) := by decide +kernel
theorem d_M_resolve_112 : decode prog_13_method_41_code 112 = .ok (.ifCond .eq 8, 3) := by decide +kernel
theorem d_M_resolve_115 : decode prog_13_method_41_code 115 = .ok (.aload_n 0, 1) := by decide +kernel
theorem d_M_resolve_116 : decode prog_13_method_41_code 116 = .ok (.iconst 4, 1) := by decide +kernel
theorem d_M_resolve_117 : decode prog_13_method_41_code 117 = .ok (.invokevirtual 294, 3) := by decide +kernel
theorem d_M_resolve_120 : decode prog_13_method_41_code 120 = .ok (.return_, 1) := by decide +kernel
theorem d_M_forward_0 : decode prog_13_method_42_code 0 = .ok (.aload_n 0, 1) := by decide +kernel
theorem d_M_forward_1 : decode prog_13_method_42_code 1 = .ok (.aload_n 0, 1) := by decide +kernel
theorem d_M_forward_2 : decode prog_13_method_42_code 2 = .ok (.getfield 211, 3) := by decide +kernel
theorem d_M_forward_5 : decode prog_13_method_42_code 5 = .ok (.iconst 1, 1) := by decide +kernel
theorem d_M_forward_6 : decode prog_13_method_42_code 6 = .ok (.isub, 1) := by decide +kernel
theorem d_M_forward_7 : decode prog_13_method_42_code 7 = .ok (.putfield 211, 3) := by decide +kernel
theorem d_M_forward_10 : decode prog_13_method_42_code 10 = .ok (.aload_n 0, 1) := by decide +kernel
theorem d_M_forward_11 : decode prog_13_method_42_code 11 = .ok (.getfield 80, 3) := by decide +kernel
theorem d_M_forward_14 : decode prog_13_method_42_code 14 = .ok (.aload_n 0, 1) := by decide +kernel
theorem d_M_forward_15 : decode prog_13_method_42_code 15 = .ok (.getfield 211, 3) := by decide +kernel
theorem d_M_forward_18 : decode prog_13_method_42_code 18 = .ok (.iaload, 1) := by decide +kernel
theorem d_M_forward_19 : decode prog_13_method_42_code 19 = .ok (.istore_n 1, 1) := by decide +kernel
theorem d_M_forward_20 : decode prog_13_method_42_code 20 = .ok (.aload_n 0, 1) := by decide +kernel
theorem d_M_forward_21 : decode prog_13_method_42_code 21 = .ok (.getfield 83, 3) := by decide +kernel
theorem d_M_forward_24 : decode prog_13_method_42_code 24 = .ok (.aload_n 0, 1) := by decide +kernel
theorem d_M_forward_25 : decode prog_13_method_42_code 25 = .ok (.getfield 211, 3) := by decide +kernel
theorem d_M_forward_28 : decode prog_13_method_42_code 28 = .ok (.iaload, 1) := by decide +kernel
theorem d_M_forward_29 : decode prog_13_method_42_code 29 = .ok (.istore_n 2, 1) := by decide +kernel
theorem d_M_forward_30 : decode prog_13_method_42_code 30 = .ok (.aload_n 0, 1) := by decide +kernel
theorem d_M_forward_31 : decode prog_13_method_42_code 31 = .ok (.getfield 50, 3) := by decide +kernel
theorem d_M_forward_34 : decode prog_13_method_42_code 34 = .ok (.iload_n 1, 1) := by decide +kernel
theorem d_M_forward_35 : decode prog_13_method_42_code 35 = .ok (.iaload, 1) := by decide +kernel
theorem d_M_forward_36 : decode prog_13_method_42_code 36 = .ok (.bipush (-2), 2) := by decide +kernel
theorem d_M_forward_38 : decode prog_13_method_42_code 38 = .ok (.if_icmp .ne 40, 3) := by decide +kernel
theorem d_M_forward_41 : decode prog_13_method_42_code 41 = .ok (.aload_n 0, 1) := by decide +kernel
theorem d_M_forward_42 : decode prog_13_method_42_code 42 = .ok (.aload_n 0, 1) := by decide +kernel
theorem d_M_forward_43 : decode prog_13_method_42_code 43 = .ok (.getfield 208, 3) := by decide +kernel
theorem d_M_forward_46 : decode prog_13_method_42_code 46 = .ok (.aload_n 0, 1) := by decide +kernel
theorem d_M_forward_47 : decode prog_13_method_42_code 47 = .ok (.getfield 86, 3) := by decide +kernel
theorem d_M_forward_50 : decode prog_13_method_42_code 50 = .ok (.aload_n 0, 1) := by decide +kernel
theorem d_M_forward_51 : decode prog_13_method_42_code 51 = .ok (.getfield 211, 3) := by decide +kernel
theorem d_M_forward_54 : decode prog_13_method_42_code 54 = .ok (.iaload, 1) := by decide +kernel
theorem d_M_forward_55 : decode prog_13_method_42_code 55 = .ok (.if_icmp .ge 10, 3) := by decide +kernel
theorem d_M_forward_58 : decode prog_13_method_42_code 58 = .ok (.aload_n 0, 1) := by decide +kernel
theorem d_M_forward_59 : decode prog_13_method_42_code 59 = .ok (.getfield 208, 3) := by decide +kernel
theorem d_M_forward_62 : decode prog_13_method_42_code 62 = .ok (.goto 12, 3) := by decide +kernel
theorem d_M_forward_65 : decode prog_13_method_42_code 65 = .ok (.aload_n 0, 1) := by decide +kernel
theorem d_M_forward_66 : decode prog_13_method_42_code 66 = .ok (.getfield 86, 3) := by decide +kernel
theorem d_M_forward_69 : decode prog_13_method_42_code 69 = .ok (.aload_n 0, 1) := by decide +kernel
theorem d_M_forward_70 : decode prog_13_method_42_code 70 = .ok (.getfield 211, 3) := by decide +kernel
theorem d_M_forward_73 : decode prog_13_method_42_code 73 = .ok (.iaload, 1) := by decide +kernel
theorem d_M_forward_74 : decode prog_13_method_42_code 74 = .ok (.putfield 208, 3) := by decide +kernel
theorem d_M_forward_77 : decode prog_13_method_42_code 77 = .ok (.return_, 1) := by decide +kernel
theorem d_M_forward_78 : decode prog_13_method_42_code 78 = .ok (.aload_n 0, 1) := by decide +kernel
theorem d_M_forward_79 : decode prog_13_method_42_code 79 = .ok (.iload_n 1, 1) := by decide +kernel
theorem d_M_forward_80 : decode prog_13_method_42_code 80 = .ok (.ldc2_w 272, 3) := by decide +kernel
theorem d_M_forward_83 : decode prog_13_method_42_code 83 = .ok (.invokevirtual 274, 3) := by decide +kernel
theorem d_M_forward_86 : decode prog_13_method_42_code 86 = .ok (.ifCond .eq 4, 3) := by decide +kernel
theorem d_M_forward_89 : decode prog_13_method_42_code 89 = .ok (.return_, 1) := by decide +kernel
theorem d_M_forward_90 : decode prog_13_method_42_code 90 = .ok (.aload_n 0, 1) := by decide +kernel
theorem d_M_forward_91 : decode prog_13_method_42_code 91 = .ok (.iload_n 1, 1) := by decide +kernel
theorem d_M_forward_92 : decode prog_13_method_42_code 92 = .ok (.ldc2_w 297, 3) := by decide +kernel
theorem d_M_forward_95 : decode prog_13_method_42_code 95 = .ok (.invokevirtual 274, 3) := by decide +kernel
theorem d_M_forward_98 : decode prog_13_method_42_code 98 = .ok (.ifCond .eq 7, 3) := by decide +kernel
theorem d_M_forward_101 : decode prog_13_method_42_code 101 = .ok (.iconst (-1), 1) := by decide +kernel
theorem d_M_forward_102 : decode prog_13_method_42_code 102 = .ok (.goto 10, 3) := by decide +kernel
theorem d_M_forward_105 : decode prog_13_method_42_code 105 = .ok (.aload_n 0, 1) := by decide +kernel
theorem d_M_forward_106 : decode prog_13_method_42_code 106 = .ok (.iload_n 1, 1) := by decide +kernel
theorem d_M_forward_107 : decode prog_13_method_42_code 107 = .ok (.iload_n 2, 1) := by decide +kernel
theorem d_M_forward_108 : decode prog_13_method_42_code 108 = .ok (.iconst (-1), 1) := by decide +kernel
theorem d_M_forward_109 : decode prog_13_method_42_code 109 = .ok (.invokevirtual 299, 3) := by decide +kernel
theorem d_M_forward_112 : decode prog_13_method_42_code 112 = .ok (.istore_n 3, 1) := by decide +kernel
theorem d_M_forward_113 : decode prog_13_method_42_code 113 = .ok (.iload_n 3, 1) := by decide +kernel
theorem d_M_forward_114 : decode prog_13_method_42_code 114 = .ok (.ifCond .ge 9, 3) := by decide +kernel
theorem d_M_forward_117 : decode prog_13_method_42_code 117 = .ok (.aload_n 0, 1) := by decide +kernel
theorem d_M_forward_118 : decode prog_13_method_42_code 118 = .ok (.iconst 3, 1) := by decide +kernel
theorem d_M_forward_119 : decode prog_13_method_42_code 119 = .ok (.putfield 199, 3) := by decide +kernel
theorem d_M_forward_122 : decode prog_13_method_42_code 122 = .ok (.return_, 1) := by decide +kernel
theorem d_M_forward_123 : decode prog_13_method_42_code 123 = .ok (.aload_n 0, 1) := by decide +kernel
theorem d_M_forward_124 : decode prog_13_method_42_code 124 = .ok (.getfield 205, 3) := by decide +kernel
theorem d_M_forward_127 : decode prog_13_method_42_code 127 = .ok (.bipush 60, 2) := by decide +kernel
theorem d_M_forward_129 : decode prog_13_method_42_code 129 = .ok (.if_icmp .ne 9, 3) := by decide +kernel
theorem d_M_forward_132 : decode prog_13_method_42_code 132 = .ok (.aload_n 0, 1) := by decide +kernel
theorem d_M_forward_133 : decode prog_13_method_42_code 133 = .ok (.iconst 3, 1) := by decide +kernel
theorem d_M_forward_134 : decode prog_13_method_42_code 134 = .ok (.invokevirtual 294, 3) := by decide +kernel
theorem d_M_forward_137 : decode prog_13_method_42_code 137 = .ok (.return_, 1) := by decide +kernel
theorem d_M_forward_138 : decode prog_13_method_42_code 138 = .ok (.aload_n 0, 1) := by decide +kernel
theorem d_M_forward_139 : decode prog_13_method_42_code 139 = .ok (.getfield 208, 3) := by decide +kernel
theorem d_M_forward_142 : decode prog_13_method_42_code 142 = .ok (.istore 4, 2) := by decide +kernel
theorem d_M_forward_144 : decode prog_13_method_42_code 144 = .ok (.aload_n 0, 1) := by decide +kernel
theorem d_M_forward_145 : decode prog_13_method_42_code 145 = .ok (.iload_n 1, 1) := by decide +kernel
theorem d_M_forward_146 : decode prog_13_method_42_code 146 = .ok (.iload_n 2, 1) := by decide +kernel
theorem d_M_forward_147 : decode prog_13_method_42_code 147 = .ok (.iload_n 3, 1) := by decide +kernel
theorem d_M_forward_148 : decode prog_13_method_42_code 148 = .ok (.invokevirtual 299, 3) := by decide +kernel
theorem d_M_forward_151 : decode prog_13_method_42_code 151 = .ok (.ifCond .lt 36, 3) := by decide +kernel
theorem d_M_forward_154 : decode prog_13_method_42_code 154 = .ok (.aload_n 0, 1) := by decide +kernel
theorem d_M_forward_155 : decode prog_13_method_42_code 155 = .ok (.getfield 74, 3) := by decide +kernel
theorem d_M_forward_158 : decode prog_13_method_42_code 158 = .ok (.aload_n 0, 1) := by decide +kernel
theorem d_M_forward_159 : decode prog_13_method_42_code 159 = .ok (.getfield 208, 3) := by decide +kernel
theorem d_M_forward_162 : decode prog_13_method_42_code 162 = .ok (.aload_n 0, 1) := by decide +kernel
theorem d_M_forward_163 : decode prog_13_method_42_code 163 = .ok (.getfield 205, 3) := by decide +kernel
theorem d_M_forward_166 : decode prog_13_method_42_code 166 = .ok (.iastore, 1) := by decide +kernel
theorem d_M_forward_167 : decode prog_13_method_42_code 167 = .ok (.aload_n 0, 1) := by decide +kernel
theorem d_M_forward_168 : decode prog_13_method_42_code 168 = .ok (.getfield 77, 3) := by decide +kernel
theorem d_M_forward_171 : decode prog_13_method_42_code 171 = .ok (.aload_n 0, 1) := by decide +kernel
theorem d_M_forward_172 : decode prog_13_method_42_code 172 = .ok (.getfield 208, 3) := by decide +kernel
theorem d_M_forward_175 : decode prog_13_method_42_code 175 = .ok (.iload_n 3, 1) := by decide +kernel
theorem d_M_forward_176 : decode prog_13_method_42_code 176 = .ok (.iastore, 1) := by decide +kernel
theorem d_M_forward_177 : decode prog_13_method_42_code 177 = .ok (.aload_n 0, 1) := by decide +kernel
theorem d_M_forward_178 : decode prog_13_method_42_code 178 = .ok (.aload_n 0, 1) := by decide +kernel
theorem d_M_forward_179 : decode prog_13_method_42_code 179 = .ok (.getfield 208, 3) := by decide +kernel
theorem d_M_forward_182 : decode prog_13_method_42_code 182 = .ok (.iconst 1, 1) := by decide +kernel
theorem d_M_forward_183 : decode prog_13_method_42_code 183 = .ok (.iadd, 1) := by decide +kernel
theorem d_M_forward_184 : decode prog_13_method_42_code 184 = .ok (.putfield 208, 3) := by decide +kernel
theorem d_M_forward_187 : decode prog_13_method_42_code 187 = .ok (.aload_n 0, 1) := by decide +kernel
theorem d_M_forward_188 : decode prog_13_method_42_code 188 = .ok (.iload_n 3, 1) := by decide +kernel
theorem d_M_forward_189 : decode prog_13_method_42_code 189 = .ok (.iload 4, 2) := by decide +kernel
theorem d_M_forward_191 : decode prog_13_method_42_code 191 = .ok (.invokevirtual 302, 3) := by decide +kernel
theorem d_M_forward_194 : decode prog_13_method_42_code 194 = .ok (.return_, 1) := by decide +kernel
theorem d_M_strip_0 : decode prog_13_method_36_code 0 = .ok (.aload_n 0, 1) := by decide +kernel
theorem d_M_strip_1 : decode prog_13_method_36_code 1 = .ok (.getfield 211, 3) := by decide +kernel
theorem d_M_strip_4 : decode prog_13_method_36_code 4 = .ok (.ifCond .le 58, 3) := by decide +kernel
theorem d_M_strip_7 : decode prog_13_method_36_code 7 = .ok (.aload_n 0, 1) := by decide +kernel
theorem d_M_strip_8 : decode prog_13_method_36_code 8 = .ok (.getfield 50, 3) := by decide +kernel
theorem d_M_strip_11 : decode prog_13_method_36_code 11 = .ok (.aload_n 0, 1) := by decide +kernel
theorem d_M_strip_12 : decode prog_13_method_36_code 12 = .ok (.getfield 80, 3) := by decide +kernel
theorem d_M_strip_15 : decode prog_13_method_36_code 15 = .ok (.aload_n 0, 1) := by decide +kernel
theorem d_M_strip_16 : decode prog_13_method_36_code 16 = .ok (.getfield 211, 3) := by decide +kernel
theorem d_M_strip_19 : decode prog_13_method_36_code 19 = .ok (.iconst 1, 1) := by decide +kernel
theorem d_M_strip_20 : decode prog_13_method_36_code 20 = .ok (.isub, 1) := by decide +kernel
theorem d_M_strip_21 : decode prog_13_method_36_code 21 = .ok (.iaload, 1) := by decide +kernel
theorem d_M_strip_22 : decode prog_13_method_36_code 22 = .ok (.iaload, 1) := by decide +kernel
theorem d_M_strip_23 : decode prog_13_method_36_code 23 = .ok (.bipush (-2), 2) := by decide +kernel
theorem d_M_strip_25 : decode prog_13_method_36_code 25 = .ok (.if_icmp .eq 24, 3) := by decide +kernel
theorem d_M_strip_28 : decode prog_13_method_36_code 28 = .ok (.aload_n 0, 1) := by decide +kernel
theorem d_M_strip_29 : decode prog_13_method_36_code 29 = .ok (.aload_n 0, 1) := by decide +kernel
theorem d_M_strip_30 : decode prog_13_method_36_code 30 = .ok (.getfield 80, 3) := by decide +kernel
theorem d_M_strip_33 : decode prog_13_method_36_code 33 = .ok (.aload_n 0, 1) := by decide +kernel
theorem d_M_strip_34 : decode prog_13_method_36_code 34 = .ok (.getfield 211, 3) := by decide +kernel
theorem d_M_strip_37 : decode prog_13_method_36_code 37 = .ok (.iconst 1, 1) := by decide +kernel
theorem d_M_strip_38 : decode prog_13_method_36_code 38 = .ok (.isub, 1) := by decide +kernel
theorem d_M_strip_39 : decode prog_13_method_36_code 39 = .ok (.iaload, 1) := by decide +kernel
theorem d_M_strip_40 : decode prog_13_method_36_code 40 = .ok (.ldc2_w 272, 3) := by decide +kernel
theorem d_M_strip_43 : decode prog_13_method_36_code 43 = .ok (.invokevirtual 274, 3) := by decide +kernel
theorem d_M_strip_46 : decode prog_13_method_36_code 46 = .ok (.ifCond .eq 16, 3) := by decide +kernel
theorem d_M_strip_49 : decode prog_13_method_36_code 49 = .ok (.aload_n 0, 1) := by decide +kernel
theorem d_M_strip_50 : decode prog_13_method_36_code 50 = .ok (.aload_n 0, 1) := by decide +kernel
theorem d_M_strip_51 : decode prog_13_method_36_code 51 = .ok (.getfield 211, 3) := by decide +kernel
theorem d_M_strip_54 : decode prog_13_method_36_code 54 = .ok (.iconst 1, 1) := by decide +kernel
theorem d_M_strip_55 : decode prog_13_method_36_code 55 = .ok (.isub, 1) := by decide +kernel
theorem d_M_strip_56 : decode prog_13_method_36_code 56 = .ok (.putfield 211, 3) := by decide +kernel
theorem d_M_strip_59 : decode prog_13_method_36_code 59 = .ok (.goto (-59), 3) := by decide +kernel
theorem d_M_strip_62 : decode prog_13_method_36_code 62 = .ok (.return_, 1) := by decide +kernel
theorem d_M_again_0 : decode prog_13_method_37_code 0 = .ok (.aload_n 0, 1) := by decide +kernel
theorem d_M_again_1 : decode prog_13_method_37_code 1 = .ok (.invokevirtual 238, 3) := by decide +kernel
theorem d_M_again_4 : decode prog_13_method_37_code 4 = .ok (.iconst 0, 1) := by decide +kernel
theorem d_M_again_5 : decode prog_13_method_37_code 5 = .ok (.istore_n 2, 1) := by decide +kernel
theorem d_M_again_6 : decode prog_13_method_37_code 6 = .ok (.iload_n 2, 1) := by decide +kernel
theorem d_M_again_7 : decode prog_13_method_37_code 7 = .ok (.iload_n 1, 1) := by decide +kernel
theorem d_M_again_8 : decode prog_13_method_37_code 8 = .ok (.if_icmp .ge 84, 3) := by decide +kernel
theorem d_M_again_11 : decode prog_13_method_37_code 11 = .ok (.aload_n 0, 1) := by decide +kernel
theorem d_M_again_12 : decode prog_13_method_37_code 12 = .ok (.invokevirtual 278, 3) := by decide +kernel
theorem d_M_again_15 : decode prog_13_method_37_code 15 = .ok (.aload_n 0, 1) := by decide +kernel
theorem d_M_again_16 : decode prog_13_method_37_code 16 = .ok (.aload_n 0, 1) := by decide +kernel
theorem d_M_again_17 : decode prog_13_method_37_code 17 = .ok (.getfield 211, 3) := by decide +kernel
theorem d_M_again_20 : decode prog_13_method_37_code 20 = .ok (.iconst 1, 1) := by decide +kernel
theorem d_M_again_21 : decode prog_13_method_37_code 21 = .ok (.isub, 1) := by decide +kernel
theorem d_M_again_22 : decode prog_13_method_37_code 22 = .ok (.putfield 211, 3) := by decide +kernel
theorem d_M_again_25 : decode prog_13_method_37_code 25 = .ok (.aload_n 0, 1) := by decide +kernel
theorem d_M_again_26 : decode prog_13_method_37_code 26 = .ok (.iload_n 2, 1) := by decide +kernel
theorem d_M_again_27 : decode prog_13_method_37_code 27 = .ok (.iconst 1, 1) := by decide +kernel
theorem d_M_again_28 : decode prog_13_method_37_code 28 = .ok (.iadd, 1) := by decide +kernel
theorem d_M_again_29 : decode prog_13_method_37_code 29 = .ok (.invokevirtual 265, 3) := by decide +kernel
theorem d_M_again_32 : decode prog_13_method_37_code 32 = .ok (.aload_n 0, 1) := by decide +kernel
theorem d_M_again_33 : decode prog_13_method_37_code 33 = .ok (.bipush 40, 2) := by decide +kernel
theorem d_M_again_35 : decode prog_13_method_37_code 35 = .ok (.aload_n 0, 1) := by decide +kernel
theorem d_M_again_36 : decode prog_13_method_37_code 36 = .ok (.getfield 68, 3) := by decide +kernel
theorem d_M_again_39 : decode prog_13_method_37_code 39 = .ok (.iload_n 2, 1) := by decide +kernel
theorem d_M_again_40 : decode prog_13_method_37_code 40 = .ok (.iaload, 1) := by decide +kernel
theorem d_M_again_41 : decode prog_13_method_37_code 41 = .ok (.imul, 1) := by decide +kernel
theorem d_M_again_42 : decode prog_13_method_37_code 42 = .ok (.iload_n 2, 1) := by decide +kernel
theorem d_M_again_43 : decode prog_13_method_37_code 43 = .ok (.iconst 1, 1) := by decide +kernel
theorem d_M_again_44 : decode prog_13_method_37_code 44 = .ok (.iadd, 1) := by decide +kernel
theorem d_M_again_45 : decode prog_13_method_37_code 45 = .ok (.aload_n 0, 1) := by decide +kernel
theorem d_M_again_46 : decode prog_13_method_37_code 46 = .ok (.getfield 80, 3) := by decide +kernel
theorem d_M_again_49 : decode prog_13_method_37_code 49 = .ok (.aload_n 0, 1) := by decide +kernel
theorem d_M_again_50 : decode prog_13_method_37_code 50 = .ok (.getfield 211, 3) := by decide +kernel
theorem d_M_again_53 : decode prog_13_method_37_code 53 = .ok (.iaload, 1) := by decide +kernel
theorem d_M_again_54 : decode prog_13_method_37_code 54 = .ok (.aload_n 0, 1) := by decide +kernel
theorem d_M_again_55 : decode prog_13_method_37_code 55 = .ok (.getfield 83, 3) := by decide +kernel
theorem d_M_again_58 : decode prog_13_method_37_code 58 = .ok (.aload_n 0, 1) := by decide +kernel
theorem d_M_again_59 : decode prog_13_method_37_code 59 = .ok (.getfield 211, 3) := by decide +kernel
theorem d_M_again_62 : decode prog_13_method_37_code 62 = .ok (.iaload, 1) := by decide +kernel
theorem d_M_again_63 : decode prog_13_method_37_code 63 = .ok (.invokevirtual 281, 3) := by decide +kernel
theorem d_M_again_66 : decode prog_13_method_37_code 66 = .ok (.istore_n 3, 1) := by decide +kernel
theorem d_M_again_67 : decode prog_13_method_37_code 67 = .ok (.aload_n 0, 1) := by decide +kernel
theorem d_M_again_68 : decode prog_13_method_37_code 68 = .ok (.aload_n 0, 1) := by decide +kernel
theorem d_M_again_69 : decode prog_13_method_37_code 69 = .ok (.getfield 68, 3) := by decide +kernel
theorem d_M_again_72 : decode prog_13_method_37_code 72 = .ok (.iload_n 2, 1) := by decide +kernel
theorem d_M_again_73 : decode prog_13_method_37_code 73 = .ok (.iaload, 1) := by decide +kernel
theorem d_M_again_74 : decode prog_13_method_37_code 74 = .ok (.iload_n 2, 1) := by decide +kernel
theorem d_M_again_75 : decode prog_13_method_37_code 75 = .ok (.iconst 1, 1) := by decide +kernel
theorem d_M_again_76 : decode prog_13_method_37_code 76 = .ok (.iadd, 1) := by decide +kernel
theorem d_M_again_77 : decode prog_13_method_37_code 77 = .ok (.aload_n 0, 1) := by decide +kernel
theorem d_M_again_78 : decode prog_13_method_37_code 78 = .ok (.getfield 71, 3) := by decide +kernel
theorem d_M_again_81 : decode prog_13_method_37_code 81 = .ok (.iload_n 2, 1) := by decide +kernel
theorem d_M_again_82 : decode prog_13_method_37_code 82 = .ok (.iaload, 1) := by decide +kernel
theorem d_M_again_83 : decode prog_13_method_37_code 83 = .ok (.invokevirtual 269, 3) := by decide +kernel
theorem d_M_again_86 : decode prog_13_method_37_code 86 = .ok (.iinc 2 1, 3) := by decide +kernel
theorem d_M_again_89 : decode prog_13_method_37_code 89 = .ok (.goto (-83), 3) := by decide +kernel
theorem d_M_again_92 : decode prog_13_method_37_code 92 = .ok (.aload_n 0, 1) := by decide +kernel
theorem d_M_again_93 : decode prog_13_method_37_code 93 = .ok (.iload_n 1, 1) := by decide +kernel
theorem d_M_again_94 : decode prog_13_method_37_code 94 = .ok (.putfield 205, 3) := by decide +kernel
theorem d_M_again_97 : decode prog_13_method_37_code 97 = .ok (.aload_n 0, 1) := by decide +kernel
theorem d_M_again_98 : decode prog_13_method_37_code 98 = .ok (.invokevirtual 278, 3) := by decide +kernel
theorem d_M_again_101 : decode prog_13_method_37_code 101 = .ok (.return_, 1) := by decide +kernel
theorem d_M_back_0 : decode prog_13_method_43_code 0 = .ok (.aload_n 0, 1) := by decide +kernel
theorem d_M_back_1 : decode prog_13_method_43_code 1 = .ok (.getfield 208, 3) := by decide +kernel
theorem d_M_back_4 : decode prog_13_method_43_code 4 = .ok (.iconst 1, 1) := by decide +kernel
theorem d_M_back_5 : decode prog_13_method_43_code 5 = .ok (.isub, 1) := by decide +kernel
theorem d_M_back_6 : decode prog_13_method_43_code 6 = .ok (.istore_n 1, 1) := by decide +kernel
theorem d_M_back_7 : decode prog_13_method_43_code 7 = .ok (.aload_n 0, 1) := by decide +kernel
theorem d_M_back_8 : decode prog_13_method_43_code 8 = .ok (.aload_n 0, 1) := by decide +kernel
theorem d_M_back_9 : decode prog_13_method_43_code 9 = .ok (.getfield 74, 3) := by decide +kernel
theorem d_M_back_12 : decode prog_13_method_43_code 12 = .ok (.iload_n 1, 1) := by decide +kernel
theorem d_M_back_13 : decode prog_13_method_43_code 13 = .ok (.iaload, 1) := by decide +kernel
theorem d_M_back_14 : decode prog_13_method_43_code 14 = .ok (.invokevirtual 305, 3) := by decide +kernel
theorem d_M_back_17 : decode prog_13_method_43_code 17 = .ok (.aload_n 0, 1) := by decide +kernel
theorem d_M_back_18 : decode prog_13_method_43_code 18 = .ok (.aload_n 0, 1) := by decide +kernel
theorem d_M_back_19 : decode prog_13_method_43_code 19 = .ok (.getfield 211, 3) := by decide +kernel
theorem d_M_back_22 : decode prog_13_method_43_code 22 = .ok (.iconst 1, 1) := by decide +kernel
theorem d_M_back_23 : decode prog_13_method_43_code 23 = .ok (.isub, 1) := by decide +kernel
theorem d_M_back_24 : decode prog_13_method_43_code 24 = .ok (.putfield 211, 3) := by decide +kernel
theorem d_M_back_27 : decode prog_13_method_43_code 27 = .ok (.aload_n 0, 1) := by decide +kernel
theorem d_M_back_28 : decode prog_13_method_43_code 28 = .ok (.aload_n 0, 1) := by decide +kernel
theorem d_M_back_29 : decode prog_13_method_43_code 29 = .ok (.getfield 80, 3) := by decide +kernel
theorem d_M_back_32 : decode prog_13_method_43_code 32 = .ok (.aload_n 0, 1) := by decide +kernel
theorem d_M_back_33 : decode prog_13_method_43_code 33 = .ok (.getfield 211, 3) := by decide +kernel
theorem d_M_back_36 : decode prog_13_method_43_code 36 = .ok (.iaload, 1) := by decide +kernel
theorem d_M_back_37 : decode prog_13_method_43_code 37 = .ok (.aload_n 0, 1) := by decide +kernel
theorem d_M_back_38 : decode prog_13_method_43_code 38 = .ok (.getfield 83, 3) := by decide +kernel
theorem d_M_back_41 : decode prog_13_method_43_code 41 = .ok (.aload_n 0, 1) := by decide +kernel
theorem d_M_back_42 : decode prog_13_method_43_code 42 = .ok (.getfield 211, 3) := by decide +kernel
theorem d_M_back_45 : decode prog_13_method_43_code 45 = .ok (.iaload, 1) := by decide +kernel
theorem d_M_back_46 : decode prog_13_method_43_code 46 = .ok (.aload_n 0, 1) := by decide +kernel
theorem d_M_back_47 : decode prog_13_method_43_code 47 = .ok (.getfield 77, 3) := by decide +kernel
theorem d_M_back_50 : decode prog_13_method_43_code 50 = .ok (.iload_n 1, 1) := by decide +kernel
theorem d_M_back_51 : decode prog_13_method_43_code 51 = .ok (.iaload, 1) := by decide +kernel
theorem d_M_back_52 : decode prog_13_method_43_code 52 = .ok (.invokevirtual 299, 3) := by decide +kernel
theorem d_M_back_55 : decode prog_13_method_43_code 55 = .ok (.istore_n 2, 1) := by decide +kernel
theorem d_M_back_56 : decode prog_13_method_43_code 56 = .ok (.aload_n 0, 1) := by decide +kernel
theorem d_M_back_57 : decode prog_13_method_43_code 57 = .ok (.getfield 77, 3) := by decide +kernel
theorem d_M_back_60 : decode prog_13_method_43_code 60 = .ok (.iload_n 1, 1) := by decide +kernel
theorem d_M_back_61 : decode prog_13_method_43_code 61 = .ok (.iload_n 2, 1) := by decide +kernel
theorem d_M_back_62 : decode prog_13_method_43_code 62 = .ok (.iastore, 1) := by decide +kernel
theorem d_M_back_63 : decode prog_13_method_43_code 63 = .ok (.aload_n 0, 1) := by decide +kernel
theorem d_M_back_64 : decode prog_13_method_43_code 64 = .ok (.aload_n 0, 1) := by decide +kernel
theorem d_M_back_65 : decode prog_13_method_43_code 65 = .ok (.aload_n 0, 1) := by decide +kernel
theorem d_M_back_66 : decode prog_13_method_43_code 66 = .ok (.getfield 80, 3) := by decide +kernel
theorem d_M_back_69 : decode prog_13_method_43_code 69 = .ok (.aload_n 0, 1) := by decide +kernel
theorem d_M_back_70 : decode prog_13_method_43_code 70 = .ok (.getfield 211, 3) := by decide +kernel
theorem d_M_back_73 : decode prog_13_method_43_code 73 = .ok (.iaload, 1) := by decide +kernel
theorem d_M_back_74 : decode prog_13_method_43_code 74 = .ok (.aload_n 0, 1) := by decide +kernel
theorem d_M_back_75 : decode prog_13_method_43_code 75 = .ok (.getfield 83, 3) := by decide +kernel
theorem d_M_back_78 : decode prog_13_method_43_code 78 = .ok (.aload_n 0, 1) := by decide +kernel
theorem d_M_back_79 : decode prog_13_method_43_code 79 = .ok (.getfield 211, 3) := by decide +kernel
theorem d_M_back_82 : decode prog_13_method_43_code 82 = .ok (.iaload, 1) := by decide +kernel
theorem d_M_back_83 : decode prog_13_method_43_code 83 = .ok (.iload_n 2, 1) := by decide +kernel
theorem d_M_back_84 : decode prog_13_method_43_code 84 = .ok (.invokevirtual 299, 3) := by decide +kernel
theorem d_M_back_87 : decode prog_13_method_43_code 87 = .ok (.ifCond .ge 7, 3) := by decide +kernel
theorem d_M_back_90 : decode prog_13_method_43_code 90 = .ok (.iload_n 1, 1) := by decide +kernel
theorem d_M_back_91 : decode prog_13_method_43_code 91 = .ok (.goto 6, 3) := by decide +kernel
theorem d_M_back_94 : decode prog_13_method_43_code 94 = .ok (.iload_n 1, 1) := by decide +kernel
theorem d_M_back_95 : decode prog_13_method_43_code 95 = .ok (.iconst 1, 1) := by decide +kernel
theorem d_M_back_96 : decode prog_13_method_43_code 96 = .ok (.iadd, 1) := by decide +kernel
theorem d_M_back_97 : decode prog_13_method_43_code 97 = .ok (.putfield 208, 3) := by decide +kernel
theorem d_M_back_100 : decode prog_13_method_43_code 100 = .ok (.aload_n 0, 1) := by decide +kernel
theorem d_M_back_101 : decode prog_13_method_43_code 101 = .ok (.iload_n 2, 1) := by decide +kernel
theorem d_M_back_102 : decode prog_13_method_43_code 102 = .ok (.iload_n 1, 1) := by decide +kernel
theorem d_M_back_103 : decode prog_13_method_43_code 103 = .ok (.invokevirtual 302, 3) := by decide +kernel
theorem d_M_back_106 : decode prog_13_method_43_code 106 = .ok (.return_, 1) := by decide +kernel
theorem d_M_step_0 : decode prog_13_method_44_code 0 = .ok (.aload_n 0, 1) := by decide +kernel
theorem d_M_step_1 : decode prog_13_method_44_code 1 = .ok (.getfield 199, 3) := by decide +kernel
theorem d_M_step_4 : decode prog_13_method_44_code 4 = .ok (.iconst 1, 1) := by decide +kernel
theorem d_M_step_5 : decode prog_13_method_44_code 5 = .ok (.if_icmp .ne 10, 3) := by decide +kernel
theorem d_M_step_8 : decode prog_13_method_44_code 8 = .ok (.aload_n 0, 1) := by decide +kernel
theorem d_M_step_9 : decode prog_13_method_44_code 9 = .ok (.invokevirtual 308, 3) := by decide +kernel
theorem d_M_step_12 : decode prog_13_method_44_code 12 = .ok (.goto 7, 3) := by decide +kernel
theorem d_M_step_15 : decode prog_13_method_44_code 15 = .ok (.aload_n 0, 1) := by decide +kernel
theorem d_M_step_16 : decode prog_13_method_44_code 16 = .ok (.invokevirtual 311, 3) := by decide +kernel
theorem d_M_step_19 : decode prog_13_method_44_code 19 = .ok (.aload_n 0, 1) := by decide +kernel
theorem d_M_step_20 : decode prog_13_method_44_code 20 = .ok (.getfield 199, 3) := by decide +kernel
theorem d_M_step_23 : decode prog_13_method_44_code 23 = .ok (.iconst 1, 1) := by decide +kernel
theorem d_M_step_24 : decode prog_13_method_44_code 24 = .ok (.if_icmp .ne 18, 3) := by decide +kernel
theorem d_M_step_27 : decode prog_13_method_44_code 27 = .ok (.aload_n 0, 1) := by decide +kernel
theorem d_M_step_28 : decode prog_13_method_44_code 28 = .ok (.getfield 211, 3) := by decide +kernel
theorem d_M_step_31 : decode prog_13_method_44_code 31 = .ok (.ifCond .ne 11, 3) := by decide +kernel
theorem d_M_step_34 : decode prog_13_method_44_code 34 = .ok (.aload_n 0, 1) := by decide +kernel
theorem d_M_step_35 : decode prog_13_method_44_code 35 = .ok (.iconst 2, 1) := by decide +kernel
theorem d_M_step_36 : decode prog_13_method_44_code 36 = .ok (.putfield 199, 3) := by decide +kernel
theorem d_M_step_39 : decode prog_13_method_44_code 39 = .ok (.goto 23, 3) := by decide +kernel
theorem d_M_step_42 : decode prog_13_method_44_code 42 = .ok (.aload_n 0, 1) := by decide +kernel
theorem d_M_step_43 : decode prog_13_method_44_code 43 = .ok (.getfield 199, 3) := by decide +kernel
theorem d_M_step_46 : decode prog_13_method_44_code 46 = .ok (.iconst 3, 1) := by decide +kernel
theorem d_M_step_47 : decode prog_13_method_44_code 47 = .ok (.if_icmp .ne 15, 3) := by decide +kernel
theorem d_M_step_50 : decode prog_13_method_44_code 50 = .ok (.aload_n 0, 1) := by decide +kernel
theorem d_M_step_51 : decode prog_13_method_44_code 51 = .ok (.getfield 208, 3) := by decide +kernel
theorem d_M_step_54 : decode prog_13_method_44_code 54 = .ok (.ifCond .ne 8, 3) := by decide +kernel
theorem d_M_step_57 : decode prog_13_method_44_code 57 = .ok (.aload_n 0, 1) := by decide +kernel
theorem d_M_step_58 : decode prog_13_method_44_code 58 = .ok (.iconst 0, 1) := by decide +kernel
theorem d_M_step_59 : decode prog_13_method_44_code 59 = .ok (.invokevirtual 294, 3) := by decide +kernel
theorem d_M_step_62 : decode prog_13_method_44_code 62 = .ok (.return_, 1) := by decide +kernel
theorem d_M_run_0 : decode prog_13_method_45_code 0 = .ok (.aload_n 0, 1) := by decide +kernel
theorem d_M_run_1 : decode prog_13_method_45_code 1 = .ok (.getfield 199, 3) := by decide +kernel
theorem d_M_run_4 : decode prog_13_method_45_code 4 = .ok (.ifCond .eq 14, 3) := by decide +kernel
theorem d_M_run_7 : decode prog_13_method_45_code 7 = .ok (.iload_n 1, 1) := by decide +kernel
theorem d_M_run_8 : decode prog_13_method_45_code 8 = .ok (.iconst 1, 1) := by decide +kernel
theorem d_M_run_9 : decode prog_13_method_45_code 9 = .ok (.if_icmp .lt 9, 3) := by decide +kernel
theorem d_M_run_12 : decode prog_13_method_45_code 12 = .ok (.iload_n 1, 1) := by decide +kernel
theorem d_M_run_13 : decode prog_13_method_45_code 13 = .ok (.bipush 100, 2) := by decide +kernel
theorem d_M_run_15 : decode prog_13_method_45_code 15 = .ok (.if_icmp .le 5, 3) := by decide +kernel
theorem d_M_run_18 : decode prog_13_method_45_code 18 = .ok (.iconst (-1), 1) := by decide +kernel
theorem d_M_run_19 : decode prog_13_method_45_code 19 = .ok (.ireturn, 1) := by decide +kernel
theorem d_M_run_20 : decode prog_13_method_45_code 20 = .ok (.aload_n 0, 1) := by decide +kernel
theorem d_M_run_21 : decode prog_13_method_45_code 21 = .ok (.getfield 199, 3) := by decide +kernel
theorem d_M_run_24 : decode prog_13_method_45_code 24 = .ok (.iconst 2, 1) := by decide +kernel
theorem d_M_run_25 : decode prog_13_method_45_code 25 = .ok (.if_icmp .ne 15, 3) := by decide +kernel
theorem d_M_run_28 : decode prog_13_method_45_code 28 = .ok (.aload_n 0, 1) := by decide +kernel
theorem d_M_run_29 : decode prog_13_method_45_code 29 = .ok (.getfield 208, 3) := by decide +kernel
theorem d_M_run_32 : decode prog_13_method_45_code 32 = .ok (.ifCond .ne 8, 3) := by decide +kernel
theorem d_M_run_35 : decode prog_13_method_45_code 35 = .ok (.aload_n 0, 1) := by decide +kernel
theorem d_M_run_36 : decode prog_13_method_45_code 36 = .ok (.iconst 0, 1) := by decide +kernel
theorem d_M_run_37 : decode prog_13_method_45_code 37 = .ok (.invokevirtual 294, 3) := by decide +kernel
theorem d_M_run_40 : decode prog_13_method_45_code 40 = .ok (.iconst 0, 1) := by decide +kernel
theorem d_M_run_41 : decode prog_13_method_45_code 41 = .ok (.istore_n 2, 1) := by decide +kernel
theorem d_M_run_42 : decode prog_13_method_45_code 42 = .ok (.iload_n 2, 1) := by decide +kernel
theorem d_M_run_43 : decode prog_13_method_45_code 43 = .ok (.iload_n 1, 1) := by decide +kernel
theorem d_M_run_44 : decode prog_13_method_45_code 44 = .ok (.if_icmp .ge 31, 3) := by decide +kernel
theorem d_M_run_47 : decode prog_13_method_45_code 47 = .ok (.aload_n 0, 1) := by decide +kernel
theorem d_M_run_48 : decode prog_13_method_45_code 48 = .ok (.getfield 199, 3) := by decide +kernel
theorem d_M_run_51 : decode prog_13_method_45_code 51 = .ok (.iconst 4, 1) := by decide +kernel
theorem d_M_run_52 : decode prog_13_method_45_code 52 = .ok (.if_icmp .eq 23, 3) := by decide +kernel
theorem d_M_run_55 : decode prog_13_method_45_code 55 = .ok (.aload_n 0, 1) := by decide +kernel
theorem d_M_run_56 : decode prog_13_method_45_code 56 = .ok (.invokevirtual 314, 3) := by decide +kernel
theorem d_M_run_59 : decode prog_13_method_45_code 59 = .ok (.aload_n 0, 1) := by decide +kernel
theorem d_M_run_60 : decode prog_13_method_45_code 60 = .ok (.getfield 199, 3) := by decide +kernel
theorem d_M_run_63 : decode prog_13_method_45_code 63 = .ok (.iconst 2, 1) := by decide +kernel
theorem d_M_run_64 : decode prog_13_method_45_code 64 = .ok (.if_icmp .ne 5, 3) := by decide +kernel
theorem d_M_run_67 : decode prog_13_method_45_code 67 = .ok (.iconst 1, 1) := by decide +kernel
theorem d_M_run_68 : decode prog_13_method_45_code 68 = .ok (.ireturn, 1) := by decide +kernel
theorem d_M_run_69 : decode prog_13_method_45_code 69 = .ok (.iinc 2 1, 3) := by decide +kernel
theorem d_M_run_72 : decode prog_13_method_45_code 72 = .ok (.goto (-30), 3) := by decide +kernel
theorem d_M_run_75 : decode prog_13_method_45_code 75 = .ok (.aload_n 0, 1) := by decide +kernel
theorem d_M_run_76 : decode prog_13_method_45_code 76 = .ok (.getfield 199, 3) := by decide +kernel
theorem d_M_run_79 : decode prog_13_method_45_code 79 = .ok (.iconst 4, 1) := by decide +kernel
theorem d_M_run_80 : decode prog_13_method_45_code 80 = .ok (.if_icmp .ne 10, 3) := by decide +kernel
theorem d_M_run_83 : decode prog_13_method_45_code 83 = .ok (.aload_n 0, 1) := by decide +kernel
theorem d_M_run_84 : decode prog_13_method_45_code 84 = .ok (.getfield 288, 3) := by decide +kernel
theorem d_M_run_87 : decode prog_13_method_45_code 87 = .ok (.goto 4, 3) := by decide +kernel
theorem d_M_run_90 : decode prog_13_method_45_code 90 = .ok (.iconst 2, 1) := by decide +kernel
theorem d_M_run_91 : decode prog_13_method_45_code 91 = .ok (.ireturn, 1) := by decide +kernel
theorem d_M_later_0 : decode prog_13_method_49_code 0 = .ok (.aload_n 0, 1) := by decide +kernel
theorem d_M_later_1 : decode prog_13_method_49_code 1 = .ok (.getfield 95, 3) := by decide +kernel
theorem d_M_later_4 : decode prog_13_method_49_code 4 = .ok (.iload_n 1, 1) := by decide +kernel
theorem d_M_later_5 : decode prog_13_method_49_code 5 = .ok (.iload_n 2, 1) := by decide +kernel
theorem d_M_later_6 : decode prog_13_method_49_code 6 = .ok (.iastore, 1) := by decide +kernel
theorem d_M_later_7 : decode prog_13_method_49_code 7 = .ok (.aload_n 0, 1) := by decide +kernel
theorem d_M_later_8 : decode prog_13_method_49_code 8 = .ok (.getfield 95, 3) := by decide +kernel
theorem d_M_later_11 : decode prog_13_method_49_code 11 = .ok (.iload_n 1, 1) := by decide +kernel
theorem d_M_later_12 : decode prog_13_method_49_code 12 = .ok (.iconst 1, 1) := by decide +kernel
theorem d_M_later_13 : decode prog_13_method_49_code 13 = .ok (.iadd, 1) := by decide +kernel
theorem d_M_later_14 : decode prog_13_method_49_code 14 = .ok (.iload_n 3, 1) := by decide +kernel
theorem d_M_later_15 : decode prog_13_method_49_code 15 = .ok (.iastore, 1) := by decide +kernel
theorem d_M_later_16 : decode prog_13_method_49_code 16 = .ok (.aload_n 0, 1) := by decide +kernel
theorem d_M_later_17 : decode prog_13_method_49_code 17 = .ok (.getfield 95, 3) := by decide +kernel
theorem d_M_later_20 : decode prog_13_method_49_code 20 = .ok (.iload_n 1, 1) := by decide +kernel
theorem d_M_later_21 : decode prog_13_method_49_code 21 = .ok (.iconst 2, 1) := by decide +kernel
theorem d_M_later_22 : decode prog_13_method_49_code 22 = .ok (.iadd, 1) := by decide +kernel
theorem d_M_later_23 : decode prog_13_method_49_code 23 = .ok (.iload 4, 2) := by decide +kernel
theorem d_M_later_25 : decode prog_13_method_49_code 25 = .ok (.iastore, 1) := by decide +kernel
theorem d_M_later_26 : decode prog_13_method_49_code 26 = .ok (.iload_n 1, 1) := by decide +kernel
theorem d_M_later_27 : decode prog_13_method_49_code 27 = .ok (.iconst 3, 1) := by decide +kernel
theorem d_M_later_28 : decode prog_13_method_49_code 28 = .ok (.iadd, 1) := by decide +kernel
theorem d_M_later_29 : decode prog_13_method_49_code 29 = .ok (.ireturn, 1) := by decide +kernel
theorem d_M_put_0 : decode prog_13_method_46_code 0 = .ok (.aload_n 0, 1) := by decide +kernel
theorem d_M_put_1 : decode prog_13_method_46_code 1 = .ok (.getfield 98, 3) := by decide +kernel
theorem d_M_put_4 : decode prog_13_method_46_code 4 = .ok (.aload_n 0, 1) := by decide +kernel
theorem d_M_put_5 : decode prog_13_method_46_code 5 = .ok (.getfield 317, 3) := by decide +kernel
theorem d_M_put_8 : decode prog_13_method_46_code 8 = .ok (.iload_n 1, 1) := by decide +kernel
theorem d_M_put_9 : decode prog_13_method_46_code 9 = .ok (.iastore, 1) := by decide +kernel
theorem d_M_put_10 : decode prog_13_method_46_code 10 = .ok (.aload_n 0, 1) := by decide +kernel
theorem d_M_put_11 : decode prog_13_method_46_code 11 = .ok (.aload_n 0, 1) := by decide +kernel
theorem d_M_put_12 : decode prog_13_method_46_code 12 = .ok (.getfield 317, 3) := by decide +kernel
theorem d_M_put_15 : decode prog_13_method_46_code 15 = .ok (.iconst 1, 1) := by decide +kernel
theorem d_M_put_16 : decode prog_13_method_46_code 16 = .ok (.iadd, 1) := by decide +kernel
theorem d_M_put_17 : decode prog_13_method_46_code 17 = .ok (.putfield 317, 3) := by decide +kernel
theorem d_M_put_20 : decode prog_13_method_46_code 20 = .ok (.return_, 1) := by decide +kernel
theorem d_M_putVariable_0 : decode prog_13_method_48_code 0 = .ok (.aload_n 0, 1) := by decide +kernel
theorem d_M_putVariable_1 : decode prog_13_method_48_code 1 = .ok (.getfield 101, 3) := by decide +kernel
theorem d_M_putVariable_4 : decode prog_13_method_48_code 4 = .ok (.iload_n 1, 1) := by decide +kernel
theorem d_M_putVariable_5 : decode prog_13_method_48_code 5 = .ok (.iaload, 1) := by decide +kernel
theorem d_M_putVariable_6 : decode prog_13_method_48_code 6 = .ok (.ifCond .ge 23, 3) := by decide +kernel
theorem d_M_putVariable_9 : decode prog_13_method_48_code 9 = .ok (.aload_n 0, 1) := by decide +kernel
theorem d_M_putVariable_10 : decode prog_13_method_48_code 10 = .ok (.getfield 101, 3) := by decide +kernel
theorem d_M_putVariable_13 : decode prog_13_method_48_code 13 = .ok (.iload_n 1, 1) := by decide +kernel
theorem d_M_putVariable_14 : decode prog_13_method_48_code 14 = .ok (.aload_n 0, 1) := by decide +kernel
theorem d_M_putVariable_15 : decode prog_13_method_48_code 15 = .ok (.getfield 323, 3) := by decide +kernel
theorem d_M_putVariable_18 : decode prog_13_method_48_code 18 = .ok (.iastore, 1) := by decide +kernel
theorem d_M_putVariable_19 : decode prog_13_method_48_code 19 = .ok (.aload_n 0, 1) := by decide +kernel
theorem d_M_putVariable_20 : decode prog_13_method_48_code 20 = .ok (.aload_n 0, 1) := by decide +kernel
theorem d_M_putVariable_21 : decode prog_13_method_48_code 21 = .ok (.getfield 323, 3) := by decide +kernel
theorem d_M_putVariable_24 : decode prog_13_method_48_code 24 = .ok (.iconst 1, 1) := by decide +kernel
theorem d_M_putVariable_25 : decode prog_13_method_48_code 25 = .ok (.iadd, 1) := by decide +kernel
theorem d_M_putVariable_26 : decode prog_13_method_48_code 26 = .ok (.putfield 323, 3) := by decide +kernel
theorem d_M_putVariable_29 : decode prog_13_method_48_code 29 = .ok (.aload_n 0, 1) := by decide +kernel
theorem d_M_putVariable_30 : decode prog_13_method_48_code 30 = .ok (.bipush 95, 2) := by decide +kernel
theorem d_M_putVariable_32 : decode prog_13_method_48_code 32 = .ok (.invokevirtual 320, 3) := by decide +kernel
theorem d_M_putVariable_35 : decode prog_13_method_48_code 35 = .ok (.aload_n 0, 1) := by decide +kernel
theorem d_M_putVariable_36 : decode prog_13_method_48_code 36 = .ok (.getfield 101, 3) := by decide +kernel
theorem d_M_putVariable_39 : decode prog_13_method_48_code 39 = .ok (.iload_n 1, 1) := by decide +kernel
theorem d_M_putVariable_40 : decode prog_13_method_48_code 40 = .ok (.iaload, 1) := by decide +kernel
theorem d_M_putVariable_41 : decode prog_13_method_48_code 41 = .ok (.bipush 99, 2) := by decide +kernel
theorem d_M_putVariable_43 : decode prog_13_method_48_code 43 = .ok (.if_icmp .le 19, 3) := by decide +kernel
theorem d_M_putVariable_46 : decode prog_13_method_48_code 46 = .ok (.aload_n 0, 1) := by decide +kernel
theorem d_M_putVariable_47 : decode prog_13_method_48_code 47 = .ok (.bipush 48, 2) := by decide +kernel
theorem d_M_putVariable_49 : decode prog_13_method_48_code 49 = .ok (.aload_n 0, 1) := by decide +kernel
theorem d_M_putVariable_50 : decode prog_13_method_48_code 50 = .ok (.getfield 101, 3) := by decide +kernel
theorem d_M_putVariable_53 : decode prog_13_method_48_code 53 = .ok (.iload_n 1, 1) := by decide +kernel
theorem d_M_putVariable_54 : decode prog_13_method_48_code 54 = .ok (.iaload, 1) := by decide +kernel
theorem d_M_putVariable_55 : decode prog_13_method_48_code 55 = .ok (.bipush 100, 2) := by decide +kernel
theorem d_M_putVariable_57 : decode prog_13_method_48_code 57 = .ok (.idiv, 1) := by decide +kernel
theorem d_M_putVariable_58 : decode prog_13_method_48_code 58 = .ok (.iadd, 1) := by decide +kernel
theorem d_M_putVariable_59 : decode prog_13_method_48_code 59 = .ok (.invokevirtual 320, 3) := by decide +kernel
theorem d_M_putVariable_62 : decode prog_13_method_48_code 62 = .ok (.aload_n 0, 1) := by decide +kernel
theorem d_M_putVariable_63 : decode prog_13_method_48_code 63 = .ok (.getfield 101, 3) := by decide +kernel
theorem d_M_putVariable_66 : decode prog_13_method_48_code 66 = .ok (.iload_n 1, 1) := by decide +kernel
theorem d_M_putVariable_67 : decode prog_13_method_48_code 67 = .ok (.iaload, 1) := by decide +kernel
theorem d_M_putVariable_68 : decode prog_13_method_48_code 68 = .ok (.bipush 9, 2) := by decide +kernel
theorem d_M_putVariable_70 : decode prog_13_method_48_code 70 = .ok (.if_icmp .le 22, 3) := by decide +kernel
theorem d_M_putVariable_73 : decode prog_13_method_48_code 73 = .ok (.aload_n 0, 1) := by decide +kernel
theorem d_M_putVariable_74 : decode prog_13_method_48_code 74 = .ok (.bipush 48, 2) := by decide +kernel
theorem d_M_putVariable_76 : decode prog_13_method_48_code 76 = .ok (.aload_n 0, 1) := by decide +kernel
theorem d_M_putVariable_77 : decode prog_13_method_48_code 77 = .ok (.getfield 101, 3) := by decide +kernel
theorem d_M_putVariable_80 : decode prog_13_method_48_code 80 = .ok (.iload_n 1, 1) := by decide +kernel
theorem d_M_putVariable_81 : decode prog_13_method_48_code 81 = .ok (.iaload, 1) := by decide +kernel
theorem d_M_putVariable_82 : decode prog_13_method_48_code 82 = .ok (.bipush 10, 2) := by decide +kernel
theorem d_M_putVariable_84 : decode prog_13_method_48_code 84 = .ok (.idiv, 1) := by decide +kernel
theorem d_M_putVariable_85 : decode prog_13_method_48_code 85 = .ok (.bipush 10, 2) := by decide +kernel
theorem d_M_putVariable_87 : decode prog_13_method_48_code 87 = .ok (.irem, 1) := by decide +kernel
theorem d_M_putVariable_88 : decode prog_13_method_48_code 88 = .ok (.iadd, 1) := by decide +kernel
theorem d_M_putVariable_89 : decode prog_13_method_48_code 89 = .ok (.invokevirtual 320, 3) := by decide +kernel
theorem d_M_putVariable_92 : decode prog_13_method_48_code 92 = .ok (.aload_n 0, 1) := by decide +kernel
theorem d_M_putVariable_93 : decode prog_13_method_48_code 93 = .ok (.bipush 48, 2) := by decide +kernel
theorem d_M_putVariable_95 : decode prog_13_method_48_code 95 = .ok (.aload_n 0, 1) := by decide +kernel
theorem d_M_putVariable_96 : decode prog_13_method_48_code 96 = .ok (.getfield 101, 3) := by decide +kernel
theorem d_M_putVariable_99 : decode prog_13_method_48_code 99 = .ok (.iload_n 1, 1) := by decide +kernel
theorem d_M_putVariable_100 : decode prog_13_method_48_code 100 = .ok (.iaload, 1) := by decide +kernel
theorem d_M_putVariable_101 : decode prog_13_method_48_code 101 = .ok (.bipush 10, 2) := by decide +kernel
theorem d_M_putVariable_103 : decode prog_13_method_48_code 103 = .ok (.irem, 1) := by decide +kernel
theorem d_M_putVariable_104 : decode prog_13_method_48_code 104 = .ok (.iadd, 1) := by decide +kernel
theorem d_M_putVariable_105 : decode prog_13_method_48_code 105 = .ok (.invokevirtual 320, 3) := by decide +kernel
theorem d_M_putVariable_108 : decode prog_13_method_48_code 108 = .ok (.return_, 1) := by decide +kernel
theorem d_M_putWord_0 : decode prog_13_method_47_code 0 = .ok (.iconst 0, 1) := by decide +kernel
theorem d_M_putWord_1 : decode prog_13_method_47_code 1 = .ok (.istore_n 3, 1) := by decide +kernel
theorem d_M_putWord_2 : decode prog_13_method_47_code 2 = .ok (.iload_n 3, 1) := by decide +kernel
theorem d_M_putWord_3 : decode prog_13_method_47_code 3 = .ok (.bipush 8, 2) := by decide +kernel
theorem d_M_putWord_5 : decode prog_13_method_47_code 5 = .ok (.if_icmp .ge 33, 3) := by decide +kernel
theorem d_M_putWord_8 : decode prog_13_method_47_code 8 = .ok (.lload_n 1, 1) := by decide +kernel
theorem d_M_putWord_9 : decode prog_13_method_47_code 9 = .ok (.bipush 8, 2) := by decide +kernel
theorem d_M_putWord_11 : decode prog_13_method_47_code 11 = .ok (.iload_n 3, 1) := by decide +kernel
theorem d_M_putWord_12 : decode prog_13_method_47_code 12 = .ok (.imul, 1) := by decide +kernel
theorem d_M_putWord_13 : decode prog_13_method_47_code 13 = .ok (.lshr, 1) := by decide +kernel
theorem d_M_putWord_14 : decode prog_13_method_47_code 14 = .ok (.ldc2_w 108, 3) := by decide +kernel
theorem d_M_putWord_17 : decode prog_13_method_47_code 17 = .ok (.land, 1) := by decide +kernel
theorem d_M_putWord_18 : decode prog_13_method_47_code 18 = .ok (.l2i, 1) := by decide +kernel
theorem d_M_putWord_19 : decode prog_13_method_47_code 19 = .ok (.istore 4, 2) := by decide +kernel
theorem d_M_putWord_21 : decode prog_13_method_47_code 21 = .ok (.iload 4, 2) := by decide +kernel
theorem d_M_putWord_23 : decode prog_13_method_47_code 23 = .ok (.ifCond .eq 9, 3) := by decide +kernel
theorem d_M_putWord_26 : decode prog_13_method_47_code 26 = .ok (.aload_n 0, 1) := by decide +kernel
theorem d_M_putWord_27 : decode prog_13_method_47_code 27 = .ok (.iload 4, 2) := by decide +kernel
theorem d_M_putWord_29 : decode prog_13_method_47_code 29 = .ok (.invokevirtual 320, 3) := by decide +kernel
theorem d_M_putWord_32 : decode prog_13_method_47_code 32 = .ok (.iinc 3 1, 3) := by decide +kernel
theorem d_M_putWord_35 : decode prog_13_method_47_code 35 = .ok (.goto (-33), 3) := by decide +kernel
theorem d_M_putWord_38 : decode prog_13_method_47_code 38 = .ok (.return_, 1) := by decide +kernel
theorem d_M_writeTerm_0 : decode prog_13_method_50_code 0 = .ok (.aload_n 0, 1) := by decide +kernel
theorem d_M_writeTerm_1 : decode prog_13_method_50_code 1 = .ok (.getfield 50, 3) := by decide +kernel
theorem d_M_writeTerm_4 : decode prog_13_method_50_code 4 = .ok (.iload_n 1, 1) := by decide +kernel
theorem d_M_writeTerm_5 : decode prog_13_method_50_code 5 = .ok (.iaload, 1) := by decide +kernel
theorem d_M_writeTerm_6 : decode prog_13_method_50_code 6 = .ok (.iconst (-1), 1) := by decide +kernel
theorem d_M_writeTerm_7 : decode prog_13_method_50_code 7 = .ok (.if_icmp .ne 21, 3) := by decide +kernel
theorem d_M_writeTerm_10 : decode prog_13_method_50_code 10 = .ok (.aload_n 0, 1) := by decide +kernel
theorem d_M_writeTerm_11 : decode prog_13_method_50_code 11 = .ok (.bipush 8, 2) := by decide +kernel
theorem d_M_writeTerm_13 : decode prog_13_method_50_code 13 = .ok (.iload_n 2, 1) := by decide +kernel
theorem d_M_writeTerm_14 : decode prog_13_method_50_code 14 = .ok (.imul, 1) := by decide +kernel
theorem d_M_writeTerm_15 : decode prog_13_method_50_code 15 = .ok (.aload_n 0, 1) := by decide +kernel
theorem d_M_writeTerm_16 : decode prog_13_method_50_code 16 = .ok (.getfield 47, 3) := by decide +kernel
theorem d_M_writeTerm_19 : decode prog_13_method_50_code 19 = .ok (.iload_n 1, 1) := by decide +kernel
theorem d_M_writeTerm_20 : decode prog_13_method_50_code 20 = .ok (.laload, 1) := by decide +kernel
theorem d_M_writeTerm_21 : decode prog_13_method_50_code 21 = .ok (.l2i, 1) := by decide +kernel
theorem d_M_writeTerm_22 : decode prog_13_method_50_code 22 = .ok (.iadd, 1) := by decide +kernel
theorem d_M_writeTerm_23 : decode prog_13_method_50_code 23 = .ok (.invokevirtual 326, 3) := by decide +kernel
theorem d_M_writeTerm_26 : decode prog_13_method_50_code 26 = .ok (.iload_n 3, 1) := by decide +kernel
theorem d_M_writeTerm_27 : decode prog_13_method_50_code 27 = .ok (.ireturn, 1) := by decide +kernel
theorem d_M_writeTerm_28 : decode prog_13_method_50_code 28 = .ok (.iload_n 3, 1) := by decide +kernel
theorem d_M_writeTerm_29 : decode prog_13_method_50_code 29 = .ok (.istore 4, 2) := by decide +kernel
theorem d_M_writeTerm_31 : decode prog_13_method_50_code 31 = .ok (.aload_n 0, 1) := by decide +kernel
theorem d_M_writeTerm_32 : decode prog_13_method_50_code 32 = .ok (.getfield 47, 3) := by decide +kernel
theorem d_M_writeTerm_35 : decode prog_13_method_50_code 35 = .ok (.iload_n 1, 1) := by decide +kernel
theorem d_M_writeTerm_36 : decode prog_13_method_50_code 36 = .ok (.laload, 1) := by decide +kernel
theorem d_M_writeTerm_37 : decode prog_13_method_50_code 37 = .ok (.lconst 1, 1) := by decide +kernel
theorem d_M_writeTerm_38 : decode prog_13_method_50_code 38 = .ok (.lcmp, 1) := by decide +kernel
theorem d_M_writeTerm_39 : decode prog_13_method_50_code 39 = .ok (.ifCond .ne 38, 3) := by decide +kernel
theorem d_M_writeTerm_42 : decode prog_13_method_50_code 42 = .ok (.aload_n 0, 1) := by decide +kernel
theorem d_M_writeTerm_43 : decode prog_13_method_50_code 43 = .ok (.bipush 91, 2) := by decide +kernel
theorem d_M_writeTerm_45 : decode prog_13_method_50_code 45 = .ok (.invokevirtual 320, 3) := by decide +kernel
theorem d_M_writeTerm_48 : decode prog_13_method_50_code 48 = .ok (.aload_n 0, 1) := by decide +kernel
theorem d_M_writeTerm_49 : decode prog_13_method_50_code 49 = .ok (.iload 4, 2) := by decide +kernel
theorem d_M_writeTerm_51 : decode prog_13_method_50_code 51 = .ok (.iconst 2, 1) := by decide +kernel
theorem d_M_writeTerm_52 : decode prog_13_method_50_code 52 = .ok (.aload_n 0, 1) := by decide +kernel
theorem d_M_writeTerm_53 : decode prog_13_method_50_code 53 = .ok (.iload_n 1, 1) := by decide +kernel
theorem d_M_writeTerm_54 : decode prog_13_method_50_code 54 = .ok (.iconst 1, 1) := by decide +kernel
theorem d_M_writeTerm_55 : decode prog_13_method_50_code 55 = .ok (.iadd, 1) := by decide +kernel
theorem d_M_writeTerm_56 : decode prog_13_method_50_code 56 = .ok (.invokevirtual 247, 3) := by decide +kernel
theorem d_M_writeTerm_59 : decode prog_13_method_50_code 59 = .ok (.iload_n 2, 1) := by decide +kernel
theorem d_M_writeTerm_60 : decode prog_13_method_50_code 60 = .ok (.invokevirtual 329, 3) := by decide +kernel
theorem d_M_writeTerm_63 : decode prog_13_method_50_code 63 = .ok (.istore 4, 2) := by decide +kernel
theorem d_M_writeTerm_65 : decode prog_13_method_50_code 65 = .ok (.aload_n 0, 1) := by decide +kernel
theorem d_M_writeTerm_66 : decode prog_13_method_50_code 66 = .ok (.iload 4, 2) := by decide +kernel
theorem d_M_writeTerm_68 : decode prog_13_method_50_code 68 = .ok (.iconst 0, 1) := by decide +kernel
theorem d_M_writeTerm_69 : decode prog_13_method_50_code 69 = .ok (.iload_n 1, 1) := by decide +kernel
theorem d_M_writeTerm_70 : decode prog_13_method_50_code 70 = .ok (.iconst 1, 1) := by decide +kernel
theorem d_M_writeTerm_71 : decode prog_13_method_50_code 71 = .ok (.iadd, 1) := by decide +kernel
theorem d_M_writeTerm_72 : decode prog_13_method_50_code 72 = .ok (.iload_n 2, 1) := by decide +kernel
theorem d_M_writeTerm_73 : decode prog_13_method_50_code 73 = .ok (.invokevirtual 329, 3) := by decide +kernel
theorem d_M_writeTerm_76 : decode prog_13_method_50_code 76 = .ok (.ireturn, 1) := by decide +kernel
theorem d_M_writeTerm_77 : decode prog_13_method_50_code 77 = .ok (.aload_n 0, 1) := by decide +kernel
theorem d_M_writeTerm_78 : decode prog_13_method_50_code 78 = .ok (.getfield 47, 3) := by decide +kernel
theorem d_M_writeTerm_81 : decode prog_13_method_50_code 81 = .ok (.iload_n 1, 1) := by decide +kernel
theorem d_M_writeTerm_82 : decode prog_13_method_50_code 82 = .ok (.laload, 1) := by decide +kernel
theorem d_M_writeTerm_83 : decode prog_13_method_50_code 83 = .ok (.ldc2_w 168, 3) := by decide +kernel
theorem d_M_writeTerm_86 : decode prog_13_method_50_code 86 = .ok (.lcmp, 1) := by decide +kernel
theorem d_M_writeTerm_87 : decode prog_13_method_50_code 87 = .ok (.ifCond .ne 18, 3) := by decide +kernel
theorem d_M_writeTerm_90 : decode prog_13_method_50_code 90 = .ok (.aload_n 0, 1) := by decide +kernel
theorem d_M_writeTerm_91 : decode prog_13_method_50_code 91 = .ok (.bipush 91, 2) := by decide +kernel
theorem d_M_writeTerm_93 : decode prog_13_method_50_code 93 = .ok (.invokevirtual 320, 3) := by decide +kernel
theorem d_M_writeTerm_96 : decode prog_13_method_50_code 96 = .ok (.aload_n 0, 1) := by decide +kernel
theorem d_M_writeTerm_97 : decode prog_13_method_50_code 97 = .ok (.bipush 93, 2) := by decide +kernel
theorem d_M_writeTerm_99 : decode prog_13_method_50_code 99 = .ok (.invokevirtual 320, 3) := by decide +kernel
theorem d_M_writeTerm_102 : decode prog_13_method_50_code 102 = .ok (.iload 4, 2) := by decide +kernel
theorem d_M_writeTerm_104 : decode prog_13_method_50_code 104 = .ok (.ireturn, 1) := by decide +kernel
theorem d_M_writeTerm_105 : decode prog_13_method_50_code 105 = .ok (.aload_n 0, 1) := by decide +kernel
theorem d_M_writeTerm_106 : decode prog_13_method_50_code 106 = .ok (.aload_n 0, 1) := by decide +kernel
theorem d_M_writeTerm_107 : decode prog_13_method_50_code 107 = .ok (.getfield 47, 3) := by decide +kernel
theorem d_M_writeTerm_110 : decode prog_13_method_50_code 110 = .ok (.iload_n 1, 1) := by decide +kernel
theorem d_M_writeTerm_111 : decode prog_13_method_50_code 111 = .ok (.laload, 1) := by decide +kernel
theorem d_M_writeTerm_112 : decode prog_13_method_50_code 112 = .ok (.invokevirtual 333, 3) := by decide +kernel
theorem d_M_writeTerm_115 : decode prog_13_method_50_code 115 = .ok (.aload_n 0, 1) := by decide +kernel
theorem d_M_writeTerm_116 : decode prog_13_method_50_code 116 = .ok (.getfield 50, 3) := by decide +kernel
theorem d_M_writeTerm_119 : decode prog_13_method_50_code 119 = .ok (.iload_n 1, 1) := by decide +kernel
theorem d_M_writeTerm_120 : decode prog_13_method_50_code 120 = .ok (.iaload, 1) := by decide +kernel
theorem d_M_writeTerm_121 : decode prog_13_method_50_code 121 = .ok (.ifCond .ne 6, 3) := by decide +kernel
theorem d_M_writeTerm_124 : decode prog_13_method_50_code 124 = .ok (.iload 4, 2) := by decide +kernel
theorem d_M_writeTerm_126 : decode prog_13_method_50_code 126 = .ok (.ireturn, 1) := by decide +kernel
theorem d_M_writeTerm_127 : decode prog_13_method_50_code 127 = .ok (.aload_n 0, 1) := by decide +kernel
theorem d_M_writeTerm_128 : decode prog_13_method_50_code 128 = .ok (.bipush 40, 2) := by decide +kernel
theorem d_M_writeTerm_130 : decode prog_13_method_50_code 130 = .ok (.invokevirtual 320, 3) := by decide +kernel
theorem d_M_writeTerm_133 : decode prog_13_method_50_code 133 = .ok (.aload_n 0, 1) := by decide +kernel
theorem d_M_writeTerm_134 : decode prog_13_method_50_code 134 = .ok (.iload 4, 2) := by decide +kernel
theorem d_M_writeTerm_136 : decode prog_13_method_50_code 136 = .ok (.iconst 1, 1) := by decide +kernel
theorem d_M_writeTerm_137 : decode prog_13_method_50_code 137 = .ok (.bipush 41, 2) := by decide +kernel
theorem d_M_writeTerm_139 : decode prog_13_method_50_code 139 = .ok (.iconst 0, 1) := by decide +kernel
theorem d_M_writeTerm_140 : decode prog_13_method_50_code 140 = .ok (.invokevirtual 329, 3) := by decide +kernel
theorem d_M_writeTerm_143 : decode prog_13_method_50_code 143 = .ok (.istore 4, 2) := by decide +kernel
theorem d_M_writeTerm_145 : decode prog_13_method_50_code 145 = .ok (.aload_n 0, 1) := by decide +kernel
theorem d_M_writeTerm_146 : decode prog_13_method_50_code 146 = .ok (.getfield 50, 3) := by decide +kernel
theorem d_M_writeTerm_149 : decode prog_13_method_50_code 149 = .ok (.iload_n 1, 1) := by decide +kernel
theorem d_M_writeTerm_150 : decode prog_13_method_50_code 150 = .ok (.iaload, 1) := by decide +kernel
theorem d_M_writeTerm_151 : decode prog_13_method_50_code 151 = .ok (.iconst 1, 1) := by decide +kernel
theorem d_M_writeTerm_152 : decode prog_13_method_50_code 152 = .ok (.isub, 1) := by decide +kernel
theorem d_M_writeTerm_153 : decode prog_13_method_50_code 153 = .ok (.istore 5, 2) := by decide +kernel
theorem d_M_writeTerm_155 : decode prog_13_method_50_code 155 = .ok (.iload 5, 2) := by decide +kernel
theorem d_M_writeTerm_157 : decode prog_13_method_50_code 157 = .ok (.ifCond .lt 72, 3) := by decide +kernel
theorem d_M_writeTerm_160 : decode prog_13_method_50_code 160 = .ok (.iload_n 1, 1) := by decide +kernel
theorem d_M_writeTerm_161 : decode prog_13_method_50_code 161 = .ok (.iconst 1, 1) := by decide +kernel
theorem d_M_writeTerm_162 : decode prog_13_method_50_code 162 = .ok (.iadd, 1) := by decide +kernel
theorem d_M_writeTerm_163 : decode prog_13_method_50_code 163 = .ok (.istore 6, 2) := by decide +kernel
theorem d_M_writeTerm_165 : decode prog_13_method_50_code 165 = .ok (.iconst 0, 1) := by decide +kernel
theorem d_M_writeTerm_166 : decode prog_13_method_50_code 166 = .ok (.istore 7, 2) := by decide +kernel
theorem d_M_writeTerm_168 : decode prog_13_method_50_code 168 = .ok (.iload 7, 2) := by decide +kernel
theorem d_M_writeTerm_170 : decode prog_13_method_50_code 170 = .ok (.iload 5, 2) := by decide +kernel
theorem d_M_writeTerm_172 : decode prog_13_method_50_code 172 = .ok (.if_icmp .ge 17, 3) := by decide +kernel
theorem d_M_writeTerm_175 : decode prog_13_method_50_code 175 = .ok (.aload_n 0, 1) := by decide +kernel
theorem d_M_writeTerm_176 : decode prog_13_method_50_code 176 = .ok (.iload 6, 2) := by decide +kernel
theorem d_M_writeTerm_178 : decode prog_13_method_50_code 178 = .ok (.invokevirtual 247, 3) := by decide +kernel
theorem d_M_writeTerm_181 : decode prog_13_method_50_code 181 = .ok (.istore 6, 2) := by decide +kernel
theorem d_M_writeTerm_183 : decode prog_13_method_50_code 183 = .ok (.iinc 7 1, 3) := by decide +kernel
theorem d_M_writeTerm_186 : decode prog_13_method_50_code 186 = .ok (.goto (-18), 3) := by decide +kernel
theorem d_M_writeTerm_189 : decode prog_13_method_50_code 189 = .ok (.aload_n 0, 1) := by decide +kernel
theorem d_M_writeTerm_190 : decode prog_13_method_50_code 190 = .ok (.iload 4, 2) := by decide +kernel
theorem d_M_writeTerm_192 : decode prog_13_method_50_code 192 = .ok (.iconst 0, 1) := by decide +kernel
theorem d_M_writeTerm_193 : decode prog_13_method_50_code 193 = .ok (.iload 6, 2) := by decide +kernel
theorem d_M_writeTerm_195 : decode prog_13_method_50_code 195 = .ok (.iload_n 2, 1) := by decide +kernel
theorem d_M_writeTerm_196 : decode prog_13_method_50_code 196 = .ok (.invokevirtual 329, 3) := by decide +kernel
theorem d_M_writeTerm_199 : decode prog_13_method_50_code 199 = .ok (.istore 4, 2) := by decide +kernel
theorem d_M_writeTerm_201 : decode prog_13_method_50_code 201 = .ok (.iload 5, 2) := by decide +kernel
theorem d_M_writeTerm_203 : decode prog_13_method_50_code 203 = .ok (.ifCond .le 16, 3) := by decide +kernel
theorem d_M_writeTerm_206 : decode prog_13_method_50_code 206 = .ok (.aload_n 0, 1) := by decide +kernel
theorem d_M_writeTerm_207 : decode prog_13_method_50_code 207 = .ok (.iload 4, 2) := by decide +kernel
theorem d_M_writeTerm_209 : decode prog_13_method_50_code 209 = .ok (.iconst 1, 1) := by decide +kernel
theorem d_M_writeTerm_210 : decode prog_13_method_50_code 210 = .ok (.bipush 44, 2) := by decide +kernel
theorem d_M_writeTerm_212 : decode prog_13_method_50_code 212 = .ok (.iconst 0, 1) := by decide +kernel
theorem d_M_writeTerm_213 : decode prog_13_method_50_code 213 = .ok (.invokevirtual 329, 3) := by decide +kernel
theorem d_M_writeTerm_216 : decode prog_13_method_50_code 216 = .ok (.goto 5, 3) := by decide +kernel
theorem d_M_writeTerm_219 : decode prog_13_method_50_code 219 = .ok (.iload 4, 2) := by decide +kernel
theorem d_M_writeTerm_221 : decode prog_13_method_50_code 221 = .ok (.istore 4, 2) := by decide +kernel
theorem d_M_writeTerm_223 : decode prog_13_method_50_code 223 = .ok (.iinc 5 (-1), 3) := by decide +kernel
theorem d_M_writeTerm_226 : decode prog_13_method_50_code 226 = .ok (.goto (-71), 3) := by decide +kernel
theorem d_M_writeTerm_229 : decode prog_13_method_50_code 229 = .ok (.iload 4, 2) := by decide +kernel
theorem d_M_writeTerm_231 : decode prog_13_method_50_code 231 = .ok (.ireturn, 1) := by decide +kernel
theorem d_M_writeRest_0 : decode prog_13_method_51_code 0 = .ok (.aload_n 0, 1) := by decide +kernel
theorem d_M_writeRest_1 : decode prog_13_method_51_code 1 = .ok (.getfield 50, 3) := by decide +kernel
theorem d_M_writeRest_4 : decode prog_13_method_51_code 4 = .ok (.iload_n 1, 1) := by decide +kernel
theorem d_M_writeRest_5 : decode prog_13_method_51_code 5 = .ok (.iaload, 1) := by decide +kernel
theorem d_M_writeRest_6 : decode prog_13_method_51_code 6 = .ok (.ifCond .ne 24, 3) := by decide +kernel
theorem d_M_writeRest_9 : decode prog_13_method_51_code 9 = .ok (.aload_n 0, 1) := by decide +kernel
theorem d_M_writeRest_10 : decode prog_13_method_51_code 10 = .ok (.getfield 47, 3) := by decide +kernel
theorem d_M_writeRest_13 : decode prog_13_method_51_code 13 = .ok (.iload_n 1, 1) := by decide +kernel
theorem d_M_writeRest_14 : decode prog_13_method_51_code 14 = .ok (.laload, 1) := by decide +kernel
theorem d_M_writeRest_15 : decode prog_13_method_51_code 15 = .ok (.ldc2_w 168, 3) := by decide +kernel
theorem d_M_writeRest_18 : decode prog_13_method_51_code 18 = .ok (.lcmp, 1) := by decide +kernel
theorem d_M_writeRest_19 : decode prog_13_method_51_code 19 = .ok (.ifCond .ne 11, 3) := by decide +kernel
theorem d_M_writeRest_22 : decode prog_13_method_51_code 22 = .ok (.aload_n 0, 1) := by decide +kernel
theorem d_M_writeRest_23 : decode prog_13_method_51_code 23 = .ok (.bipush 93, 2) := by decide +kernel
theorem d_M_writeRest_25 : decode prog_13_method_51_code 25 = .ok (.invokevirtual 320, 3) := by decide +kernel
theorem d_M_writeRest_28 : decode prog_13_method_51_code 28 = .ok (.iload_n 3, 1) := by decide +kernel
theorem d_M_writeRest_29 : decode prog_13_method_51_code 29 = .ok (.ireturn, 1) := by decide +kernel
theorem d_M_writeRest_30 : decode prog_13_method_51_code 30 = .ok (.aload_n 0, 1) := by decide +kernel
theorem d_M_writeRest_31 : decode prog_13_method_51_code 31 = .ok (.getfield 50, 3) := by decide +kernel
theorem d_M_writeRest_34 : decode prog_13_method_51_code 34 = .ok (.iload_n 1, 1) := by decide +kernel
theorem d_M_writeRest_35 : decode prog_13_method_51_code 35 = .ok (.iaload, 1) := by decide +kernel
theorem d_M_writeRest_36 : decode prog_13_method_51_code 36 = .ok (.iconst 2, 1) := by decide +kernel
theorem d_M_writeRest_37 : decode prog_13_method_51_code 37 = .ok (.if_icmp .ne 48, 3) := by decide +kernel
theorem d_M_writeRest_40 : decode prog_13_method_51_code 40 = .ok (.aload_n 0, 1) := by decide +kernel
theorem d_M_writeRest_41 : decode prog_13_method_51_code 41 = .ok (.getfield 47, 3) := by decide +kernel
theorem d_M_writeRest_44 : decode prog_13_method_51_code 44 = .ok (.iload_n 1, 1) := by decide +kernel
theorem d_M_writeRest_45 : decode prog_13_method_51_code 45 = .ok (.laload, 1) := by decide +kernel
theorem d_M_writeRest_46 : decode prog_13_method_51_code 46 = .ok (.lconst 1, 1) := by decide +kernel
theorem d_M_writeRest_47 : decode prog_13_method_51_code 47 = .ok (.lcmp, 1) := by decide +kernel
theorem d_M_writeRest_48 : decode prog_13_method_51_code 48 = .ok (.ifCond .ne 37, 3) := by decide +kernel
theorem d_M_writeRest_51 : decode prog_13_method_51_code 51 = .ok (.aload_n 0, 1) := by decide +kernel
theorem d_M_writeRest_52 : decode prog_13_method_51_code 52 = .ok (.bipush 44, 2) := by decide +kernel
theorem d_M_writeRest_54 : decode prog_13_method_51_code 54 = .ok (.invokevirtual 320, 3) := by decide +kernel
theorem d_M_writeRest_57 : decode prog_13_method_51_code 57 = .ok (.aload_n 0, 1) := by decide +kernel
theorem d_M_writeRest_58 : decode prog_13_method_51_code 58 = .ok (.iload_n 3, 1) := by decide +kernel
theorem d_M_writeRest_59 : decode prog_13_method_51_code 59 = .ok (.iconst 2, 1) := by decide +kernel
theorem d_M_writeRest_60 : decode prog_13_method_51_code 60 = .ok (.aload_n 0, 1) := by decide +kernel
theorem d_M_writeRest_61 : decode prog_13_method_51_code 61 = .ok (.iload_n 1, 1) := by decide +kernel
theorem d_M_writeRest_62 : decode prog_13_method_51_code 62 = .ok (.iconst 1, 1) := by decide +kernel
theorem d_M_writeRest_63 : decode prog_13_method_51_code 63 = .ok (.iadd, 1) := by decide +kernel
theorem d_M_writeRest_64 : decode prog_13_method_51_code 64 = .ok (.invokevirtual 247, 3) := by decide +kernel
theorem d_M_writeRest_67 : decode prog_13_method_51_code 67 = .ok (.iload_n 2, 1) := by decide +kernel
theorem d_M_writeRest_68 : decode prog_13_method_51_code 68 = .ok (.invokevirtual 329, 3) := by decide +kernel
theorem d_M_writeRest_71 : decode prog_13_method_51_code 71 = .ok (.istore 4, 2) := by decide +kernel
theorem d_M_writeRest_73 : decode prog_13_method_51_code 73 = .ok (.aload_n 0, 1) := by decide +kernel
theorem d_M_writeRest_74 : decode prog_13_method_51_code 74 = .ok (.iload 4, 2) := by decide +kernel
theorem d_M_writeRest_76 : decode prog_13_method_51_code 76 = .ok (.iconst 0, 1) := by decide +kernel
theorem d_M_writeRest_77 : decode prog_13_method_51_code 77 = .ok (.iload_n 1, 1) := by decide +kernel
theorem d_M_writeRest_78 : decode prog_13_method_51_code 78 = .ok (.iconst 1, 1) := by decide +kernel
theorem d_M_writeRest_79 : decode prog_13_method_51_code 79 = .ok (.iadd, 1) := by decide +kernel
theorem d_M_writeRest_80 : decode prog_13_method_51_code 80 = .ok (.iload_n 2, 1) := by decide +kernel
theorem d_M_writeRest_81 : decode prog_13_method_51_code 81 = .ok (.invokevirtual 329, 3) := by decide +kernel
theorem d_M_writeRest_84 : decode prog_13_method_51_code 84 = .ok (.ireturn, 1) := by decide +kernel
theorem d_M_writeRest_85 : decode prog_13_method_51_code 85 = .ok (.aload_n 0, 1) := by decide +kernel
theorem d_M_writeRest_86 : decode prog_13_method_51_code 86 = .ok (.bipush 124, 2) := by decide +kernel
theorem d_M_writeRest_88 : decode prog_13_method_51_code 88 = .ok (.invokevirtual 320, 3) := by decide +kernel
theorem d_M_writeRest_91 : decode prog_13_method_51_code 91 = .ok (.aload_n 0, 1) := by decide +kernel
theorem d_M_writeRest_92 : decode prog_13_method_51_code 92 = .ok (.iload_n 3, 1) := by decide +kernel
theorem d_M_writeRest_93 : decode prog_13_method_51_code 93 = .ok (.iconst 1, 1) := by decide +kernel
theorem d_M_writeRest_94 : decode prog_13_method_51_code 94 = .ok (.bipush 93, 2) := by decide +kernel
theorem d_M_writeRest_96 : decode prog_13_method_51_code 96 = .ok (.iconst 0, 1) := by decide +kernel
theorem d_M_writeRest_97 : decode prog_13_method_51_code 97 = .ok (.invokevirtual 329, 3) := by decide +kernel
theorem d_M_writeRest_100 : decode prog_13_method_51_code 100 = .ok (.istore 4, 2) := by decide +kernel
theorem d_M_writeRest_102 : decode prog_13_method_51_code 102 = .ok (.aload_n 0, 1) := by decide +kernel
theorem d_M_writeRest_103 : decode prog_13_method_51_code 103 = .ok (.iload 4, 2) := by decide +kernel
theorem d_M_writeRest_105 : decode prog_13_method_51_code 105 = .ok (.iconst 0, 1) := by decide +kernel
theorem d_M_writeRest_106 : decode prog_13_method_51_code 106 = .ok (.iload_n 1, 1) := by decide +kernel
theorem d_M_writeRest_107 : decode prog_13_method_51_code 107 = .ok (.iload_n 2, 1) := by decide +kernel
theorem d_M_writeRest_108 : decode prog_13_method_51_code 108 = .ok (.invokevirtual 329, 3) := by decide +kernel
theorem d_M_writeRest_111 : decode prog_13_method_51_code 111 = .ok (.ireturn, 1) := by decide +kernel
theorem d_M_write_0 : decode prog_13_method_52_code 0 = .ok (.aload_n 0, 1) := by decide +kernel
theorem d_M_write_1 : decode prog_13_method_52_code 1 = .ok (.iconst 0, 1) := by decide +kernel
theorem d_M_write_2 : decode prog_13_method_52_code 2 = .ok (.putfield 317, 3) := by decide +kernel
theorem d_M_write_5 : decode prog_13_method_52_code 5 = .ok (.aload_n 0, 1) := by decide +kernel
theorem d_M_write_6 : decode prog_13_method_52_code 6 = .ok (.iconst 0, 1) := by decide +kernel
theorem d_M_write_7 : decode prog_13_method_52_code 7 = .ok (.iconst 0, 1) := by decide +kernel
theorem d_M_write_8 : decode prog_13_method_52_code 8 = .ok (.iload_n 1, 1) := by decide +kernel
theorem d_M_write_9 : decode prog_13_method_52_code 9 = .ok (.iconst 0, 1) := by decide +kernel
theorem d_M_write_10 : decode prog_13_method_52_code 10 = .ok (.invokevirtual 329, 3) := by decide +kernel
theorem d_M_write_13 : decode prog_13_method_52_code 13 = .ok (.istore_n 2, 1) := by decide +kernel
theorem d_M_write_14 : decode prog_13_method_52_code 14 = .ok (.iload_n 2, 1) := by decide +kernel
theorem d_M_write_15 : decode prog_13_method_52_code 15 = .ok (.ifCond .le 89, 3) := by decide +kernel
theorem d_M_write_18 : decode prog_13_method_52_code 18 = .ok (.iload_n 2, 1) := by decide +kernel
theorem d_M_write_19 : decode prog_13_method_52_code 19 = .ok (.iconst 3, 1) := by decide +kernel
theorem d_M_write_20 : decode prog_13_method_52_code 20 = .ok (.isub, 1) := by decide +kernel
theorem d_M_write_21 : decode prog_13_method_52_code 21 = .ok (.istore_n 2, 1) := by decide +kernel
theorem d_M_write_22 : decode prog_13_method_52_code 22 = .ok (.aload_n 0, 1) := by decide +kernel
theorem d_M_write_23 : decode prog_13_method_52_code 23 = .ok (.getfield 95, 3) := by decide +kernel
theorem d_M_write_26 : decode prog_13_method_52_code 26 = .ok (.iload_n 2, 1) := by decide +kernel
theorem d_M_write_27 : decode prog_13_method_52_code 27 = .ok (.iaload, 1) := by decide +kernel
theorem d_M_write_28 : decode prog_13_method_52_code 28 = .ok (.istore_n 3, 1) := by decide +kernel
theorem d_M_write_29 : decode prog_13_method_52_code 29 = .ok (.aload_n 0, 1) := by decide +kernel
theorem d_M_write_30 : decode prog_13_method_52_code 30 = .ok (.getfield 95, 3) := by decide +kernel
theorem d_M_write_33 : decode prog_13_method_52_code 33 = .ok (.iload_n 2, 1) := by decide +kernel
theorem d_M_write_34 : decode prog_13_method_52_code 34 = .ok (.iconst 1, 1) := by decide +kernel
theorem d_M_write_35 : decode prog_13_method_52_code 35 = .ok (.iadd, 1) := by decide +kernel
theorem d_M_write_36 : decode prog_13_method_52_code 36 = .ok (.iaload, 1) := by decide +kernel
theorem d_M_write_37 : decode prog_13_method_52_code 37 = .ok (.istore 4, 2) := by decide +kernel
theorem d_M_write_39 : decode prog_13_method_52_code 39 = .ok (.iload_n 3, 1) := by decide +kernel
theorem d_M_write_40 : decode prog_13_method_52_code 40 = .ok (.iconst 1, 1) := by decide +kernel
theorem d_M_write_41 : decode prog_13_method_52_code 41 = .ok (.if_icmp .ne 12, 3) := by decide +kernel
theorem d_M_write_44 : decode prog_13_method_52_code 44 = .ok (.aload_n 0, 1) := by decide +kernel
theorem d_M_write_45 : decode prog_13_method_52_code 45 = .ok (.iload 4, 2) := by decide +kernel
theorem d_M_write_47 : decode prog_13_method_52_code 47 = .ok (.invokevirtual 320, 3) := by decide +kernel
theorem d_M_write_50 : decode prog_13_method_52_code 50 = .ok (.goto 51, 3) := by decide +kernel
theorem d_M_write_53 : decode prog_13_method_52_code 53 = .ok (.aload_n 0, 1) := by decide +kernel
theorem d_M_write_54 : decode prog_13_method_52_code 54 = .ok (.iload 4, 2) := by decide +kernel
theorem d_M_write_56 : decode prog_13_method_52_code 56 = .ok (.aload_n 0, 1) := by decide +kernel
theorem d_M_write_57 : decode prog_13_method_52_code 57 = .ok (.getfield 95, 3) := by decide +kernel
theorem d_M_write_60 : decode prog_13_method_52_code 60 = .ok (.iload_n 2, 1) := by decide +kernel
theorem d_M_write_61 : decode prog_13_method_52_code 61 = .ok (.iconst 2, 1) := by decide +kernel
theorem d_M_write_62 : decode prog_13_method_52_code 62 = .ok (.iadd, 1) := by decide +kernel
theorem d_M_write_63 : decode prog_13_method_52_code 63 = .ok (.iaload, 1) := by decide +kernel
theorem d_M_write_64 : decode prog_13_method_52_code 64 = .ok (.invokevirtual 250, 3) := by decide +kernel
theorem d_M_write_67 : decode prog_13_method_52_code 67 = .ok (.iload_n 3, 1) := by decide +kernel
theorem d_M_write_68 : decode prog_13_method_52_code 68 = .ok (.ifCond .ne 19, 3) := by decide +kernel
theorem d_M_write_71 : decode prog_13_method_52_code 71 = .ok (.aload_n 0, 1) := by decide +kernel
theorem d_M_write_72 : decode prog_13_method_52_code 72 = .ok (.aload_n 0, 1) := by decide +kernel
theorem d_M_write_73 : decode prog_13_method_52_code 73 = .ok (.getfield 241, 3) := by decide +kernel
theorem d_M_write_76 : decode prog_13_method_52_code 76 = .ok (.aload_n 0, 1) := by decide +kernel
theorem d_M_write_77 : decode prog_13_method_52_code 77 = .ok (.getfield 244, 3) := by decide +kernel
theorem d_M_write_80 : decode prog_13_method_52_code 80 = .ok (.iload_n 2, 1) := by decide +kernel
theorem d_M_write_81 : decode prog_13_method_52_code 81 = .ok (.invokevirtual 337, 3) := by decide +kernel
theorem d_M_write_84 : decode prog_13_method_52_code 84 = .ok (.goto 16, 3) := by decide +kernel
theorem d_M_write_87 : decode prog_13_method_52_code 87 = .ok (.aload_n 0, 1) := by decide +kernel
theorem d_M_write_88 : decode prog_13_method_52_code 88 = .ok (.aload_n 0, 1) := by decide +kernel
theorem d_M_write_89 : decode prog_13_method_52_code 89 = .ok (.getfield 241, 3) := by decide +kernel
theorem d_M_write_92 : decode prog_13_method_52_code 92 = .ok (.aload_n 0, 1) := by decide +kernel
theorem d_M_write_93 : decode prog_13_method_52_code 93 = .ok (.getfield 244, 3) := by decide +kernel
theorem d_M_write_96 : decode prog_13_method_52_code 96 = .ok (.iload_n 2, 1) := by decide +kernel
theorem d_M_write_97 : decode prog_13_method_52_code 97 = .ok (.invokevirtual 340, 3) := by decide +kernel
theorem d_M_write_100 : decode prog_13_method_52_code 100 = .ok (.istore_n 2, 1) := by decide +kernel
theorem d_M_write_101 : decode prog_13_method_52_code 101 = .ok (.goto (-87), 3) := by decide +kernel
theorem d_M_write_104 : decode prog_13_method_52_code 104 = .ok (.return_, 1) := by decide +kernel
theorem d_M_answer_0 : decode prog_13_method_53_code 0 = .ok (.aload_n 0, 1) := by decide +kernel
theorem d_M_answer_1 : decode prog_13_method_53_code 1 = .ok (.getfield 199, 3) := by decide +kernel
theorem d_M_answer_4 : decode prog_13_method_53_code 4 = .ok (.iconst 2, 1) := by decide +kernel
theorem d_M_answer_5 : decode prog_13_method_53_code 5 = .ok (.if_icmp .ne 19, 3) := by decide +kernel
theorem d_M_answer_8 : decode prog_13_method_53_code 8 = .ok (.iload_n 1, 1) := by decide +kernel
theorem d_M_answer_9 : decode prog_13_method_53_code 9 = .ok (.ifCond .lt 15, 3) := by decide +kernel
theorem d_M_answer_12 : decode prog_13_method_53_code 12 = .ok (.iload_n 1, 1) := by decide +kernel
theorem d_M_answer_13 : decode prog_13_method_53_code 13 = .ok (.aload_n 0, 1) := by decide +kernel
theorem d_M_answer_14 : decode prog_13_method_53_code 14 = .ok (.getfield 235, 3) := by decide +kernel
theorem d_M_answer_17 : decode prog_13_method_53_code 17 = .ok (.if_icmp .ge 7, 3) := by decide +kernel
theorem d_M_answer_20 : decode prog_13_method_53_code 20 = .ok (.iload_n 2, 1) := by decide +kernel
theorem d_M_answer_21 : decode prog_13_method_53_code 21 = .ok (.ifCond .ge 5, 3) := by decide +kernel
theorem d_M_answer_24 : decode prog_13_method_53_code 24 = .ok (.iconst 0, 1) := by decide +kernel
theorem d_M_answer_25 : decode prog_13_method_53_code 25 = .ok (.ireturn, 1) := by decide +kernel
theorem d_M_answer_26 : decode prog_13_method_53_code 26 = .ok (.iconst 0, 1) := by decide +kernel
theorem d_M_answer_27 : decode prog_13_method_53_code 27 = .ok (.istore_n 3, 1) := by decide +kernel
theorem d_M_answer_28 : decode prog_13_method_53_code 28 = .ok (.iload_n 3, 1) := by decide +kernel
theorem d_M_answer_29 : decode prog_13_method_53_code 29 = .ok (.sipush 488, 3) := by decide +kernel
theorem d_M_answer_32 : decode prog_13_method_53_code 32 = .ok (.if_icmp .ge 16, 3) := by decide +kernel
theorem d_M_answer_35 : decode prog_13_method_53_code 35 = .ok (.aload_n 0, 1) := by decide +kernel
theorem d_M_answer_36 : decode prog_13_method_53_code 36 = .ok (.getfield 101, 3) := by decide +kernel
theorem d_M_answer_39 : decode prog_13_method_53_code 39 = .ok (.iload_n 3, 1) := by decide +kernel
theorem d_M_answer_40 : decode prog_13_method_53_code 40 = .ok (.iconst (-1), 1) := by decide +kernel
theorem d_M_answer_41 : decode prog_13_method_53_code 41 = .ok (.iastore, 1) := by decide +kernel
theorem d_M_answer_42 : decode prog_13_method_53_code 42 = .ok (.iinc 3 1, 3) := by decide +kernel
theorem d_M_answer_45 : decode prog_13_method_53_code 45 = .ok (.goto (-17), 3) := by decide +kernel
theorem d_M_answer_48 : decode prog_13_method_53_code 48 = .ok (.aload_n 0, 1) := by decide +kernel
theorem d_M_answer_49 : decode prog_13_method_53_code 49 = .ok (.iconst 0, 1) := by decide +kernel
theorem d_M_answer_50 : decode prog_13_method_53_code 50 = .ok (.putfield 323, 3) := by decide +kernel
theorem d_M_answer_53 : decode prog_13_method_53_code 53 = .ok (.iconst 0, 1) := by decide +kernel
theorem d_M_answer_54 : decode prog_13_method_53_code 54 = .ok (.istore_n 3, 1) := by decide +kernel
theorem d_M_answer_55 : decode prog_13_method_53_code 55 = .ok (.iload_n 3, 1) := by decide +kernel
theorem d_M_answer_56 : decode prog_13_method_53_code 56 = .ok (.iload_n 1, 1) := by decide +kernel
theorem d_M_answer_57 : decode prog_13_method_53_code 57 = .ok (.if_icmp .gt 19, 3) := by decide +kernel
theorem d_M_answer_60 : decode prog_13_method_53_code 60 = .ok (.aload_n 0, 1) := by decide +kernel
theorem d_M_answer_61 : decode prog_13_method_53_code 61 = .ok (.aload_n 0, 1) := by decide +kernel
theorem d_M_answer_62 : decode prog_13_method_53_code 62 = .ok (.getfield 65, 3) := by decide +kernel
theorem d_M_answer_65 : decode prog_13_method_53_code 65 = .ok (.iload_n 3, 1) := by decide +kernel
theorem d_M_answer_66 : decode prog_13_method_53_code 66 = .ok (.iaload, 1) := by decide +kernel
theorem d_M_answer_67 : decode prog_13_method_53_code 67 = .ok (.invokevirtual 343, 3) := by decide +kernel
theorem d_M_answer_70 : decode prog_13_method_53_code 70 = .ok (.iinc 3 1, 3) := by decide +kernel
theorem d_M_answer_73 : decode prog_13_method_53_code 73 = .ok (.goto (-18), 3) := by decide +kernel
theorem d_M_answer_76 : decode prog_13_method_53_code 76 = .ok (.iload_n 2, 1) := by decide +kernel
theorem d_M_answer_77 : decode prog_13_method_53_code 77 = .ok (.aload_n 0, 1) := by decide +kernel
theorem d_M_answer_78 : decode prog_13_method_53_code 78 = .ok (.getfield 317, 3) := by decide +kernel
theorem d_M_answer_81 : decode prog_13_method_53_code 81 = .ok (.if_icmp .ge 13, 3) := by decide +kernel
theorem d_M_answer_84 : decode prog_13_method_53_code 84 = .ok (.aload_n 0, 1) := by decide +kernel
theorem d_M_answer_85 : decode prog_13_method_53_code 85 = .ok (.getfield 98, 3) := by decide +kernel
theorem d_M_answer_88 : decode prog_13_method_53_code 88 = .ok (.iload_n 2, 1) := by decide +kernel
theorem d_M_answer_89 : decode prog_13_method_53_code 89 = .ok (.iaload, 1) := by decide +kernel
theorem d_M_answer_90 : decode prog_13_method_53_code 90 = .ok (.i2c, 1) := by decide +kernel
theorem d_M_answer_91 : decode prog_13_method_53_code 91 = .ok (.goto 4, 3) := by decide +kernel
theorem d_M_answer_94 : decode prog_13_method_53_code 94 = .ok (.iconst 0, 1) := by decide +kernel
theorem d_M_answer_95 : decode prog_13_method_53_code 95 = .ok (.ireturn, 1) := by decide +kernel
theorem d_M_clauses_0 : decode prog_13_method_54_code 0 = .ok (.aload_n 0, 1) := by decide +kernel
theorem d_M_clauses_1 : decode prog_13_method_54_code 1 = .ok (.getfield 221, 3) := by decide +kernel
theorem d_M_clauses_4 : decode prog_13_method_54_code 4 = .ok (.ireturn, 1) := by decide +kernel
theorem d_M_tries_0 : decode prog_13_method_55_code 0 = .ok (.aload_n 0, 1) := by decide +kernel
theorem d_M_tries_1 : decode prog_13_method_55_code 1 = .ok (.getfield 202, 3) := by decide +kernel
theorem d_M_tries_4 : decode prog_13_method_55_code 4 = .ok (.ireturn, 1) := by decide +kernel
theorem d_M_choices_0 : decode prog_13_method_56_code 0 = .ok (.aload_n 0, 1) := by decide +kernel
theorem d_M_choices_1 : decode prog_13_method_56_code 1 = .ok (.getfield 208, 3) := by decide +kernel
theorem d_M_choices_4 : decode prog_13_method_56_code 4 = .ok (.ireturn, 1) := by decide +kernel
theorem d_M_length_0 : decode prog_13_method_57_code 0 = .ok (.aload_n 0, 1) := by decide +kernel
theorem d_M_length_1 : decode prog_13_method_57_code 1 = .ok (.getfield 205, 3) := by decide +kernel
theorem d_M_length_4 : decode prog_13_method_57_code 4 = .ok (.ireturn, 1) := by decide +kernel
theorem d_M_goals_0 : decode prog_13_method_58_code 0 = .ok (.aload_n 0, 1) := by decide +kernel
theorem d_M_goals_1 : decode prog_13_method_58_code 1 = .ok (.getfield 199, 3) := by decide +kernel
theorem d_M_goals_4 : decode prog_13_method_58_code 4 = .ok (.iconst 3, 1) := by decide +kernel
theorem d_M_goals_5 : decode prog_13_method_58_code 5 = .ok (.if_icmp .eq 18, 3) := by decide +kernel
theorem d_M_goals_8 : decode prog_13_method_58_code 8 = .ok (.aload_n 0, 1) := by decide +kernel
theorem d_M_goals_9 : decode prog_13_method_58_code 9 = .ok (.getfield 199, 3) := by decide +kernel
theorem d_M_goals_12 : decode prog_13_method_58_code 12 = .ok (.iconst 4, 1) := by decide +kernel
theorem d_M_goals_13 : decode prog_13_method_58_code 13 = .ok (.if_icmp .ne 14, 3) := by decide +kernel
theorem d_M_goals_16 : decode prog_13_method_58_code 16 = .ok (.aload_n 0, 1) := by decide +kernel
theorem d_M_goals_17 : decode prog_13_method_58_code 17 = .ok (.getfield 288, 3) := by decide +kernel
theorem d_M_goals_20 : decode prog_13_method_58_code 20 = .ok (.ifCond .ne 7, 3) := by decide +kernel
theorem d_M_goals_23 : decode prog_13_method_58_code 23 = .ok (.iconst 0, 1) := by decide +kernel
theorem d_M_goals_24 : decode prog_13_method_58_code 24 = .ok (.goto 7, 3) := by decide +kernel
theorem d_M_goals_27 : decode prog_13_method_58_code 27 = .ok (.aload_n 0, 1) := by decide +kernel
theorem d_M_goals_28 : decode prog_13_method_58_code 28 = .ok (.getfield 211, 3) := by decide +kernel
theorem d_M_goals_31 : decode prog_13_method_58_code 31 = .ok (.ireturn, 1) := by decide +kernel
theorem d_M_forget_0 : decode prog_13_method_59_code 0 = .ok (.aload_n 0, 1) := by decide +kernel
theorem d_M_forget_1 : decode prog_13_method_59_code 1 = .ok (.iconst 0, 1) := by decide +kernel
theorem d_M_forget_2 : decode prog_13_method_59_code 2 = .ok (.putfield 221, 3) := by decide +kernel
theorem d_M_forget_5 : decode prog_13_method_59_code 5 = .ok (.aload_n 0, 1) := by decide +kernel
theorem d_M_forget_6 : decode prog_13_method_59_code 6 = .ok (.iconst 0, 1) := by decide +kernel
theorem d_M_forget_7 : decode prog_13_method_59_code 7 = .ok (.putfield 196, 3) := by decide +kernel
theorem d_M_forget_10 : decode prog_13_method_59_code 10 = .ok (.aload_n 0, 1) := by decide +kernel
theorem d_M_forget_11 : decode prog_13_method_59_code 11 = .ok (.invokevirtual 218, 3) := by decide +kernel
theorem d_M_forget_14 : decode prog_13_method_59_code 14 = .ok (.return_, 1) := by decide +kernel
