/-! printed by wip/gen/drive.py -/
theorem d_Text_letterOf_0 : decode prog_10_method_3_code 0 = .ok (.lload_n 0, 1) := by decide +kernel
theorem d_Text_letterOf_1 : decode prog_10_method_3_code 1 = .ok (.bipush 8, 2) := by decide +kernel
theorem d_Text_letterOf_3 : decode prog_10_method_3_code 3 = .ok (.iload_n 2, 1) := by decide +kernel
theorem d_Text_letterOf_4 : decode prog_10_method_3_code 4 = .ok (.imul, 1) := by decide +kernel
theorem d_Text_letterOf_5 : decode prog_10_method_3_code 5 = .ok (.lushr, 1) := by decide +kernel
theorem d_Text_letterOf_6 : decode prog_10_method_3_code 6 = .ok (.ldc2_w 35, 3) := by decide +kernel
theorem d_Text_letterOf_9 : decode prog_10_method_3_code 9 = .ok (.land, 1) := by decide +kernel
theorem d_Text_letterOf_10 : decode prog_10_method_3_code 10 = .ok (.l2i, 1) := by decide +kernel
theorem d_Text_letterOf_11 : decode prog_10_method_3_code 11 = .ok (.i2c, 1) := by decide +kernel
theorem d_Text_letterOf_12 : decode prog_10_method_3_code 12 = .ok (.ireturn, 1) := by decide +kernel
theorem d_P_isSmall_0 : decode prog_1_method_13_code 0 = .ok (.iload_n 0, 1) := by decide +kernel
theorem d_P_isSmall_1 : decode prog_1_method_13_code 1 = .ok (.bipush 97, 2) := by decide +kernel
theorem d_P_isSmall_3 : decode prog_1_method_13_code 3 = .ok (.if_icmp .lt 9, 3) := by decide +kernel
theorem d_P_isSmall_6 : decode prog_1_method_13_code 6 = .ok (.iload_n 0, 1) := by decide +kernel
theorem d_P_isSmall_7 : decode prog_1_method_13_code 7 = .ok (.bipush 122, 2) := by decide +kernel
theorem d_P_isSmall_9 : decode prog_1_method_13_code 9 = .ok (.if_icmp .le 15, 3) := by decide +kernel
theorem d_P_isSmall_12 : decode prog_1_method_13_code 12 = .ok (.iload_n 0, 1) := by decide +kernel
theorem d_P_isSmall_13 : decode prog_1_method_13_code 13 = .ok (.bipush 48, 2) := by decide +kernel
theorem d_P_isSmall_15 : decode prog_1_method_13_code 15 = .ok (.if_icmp .lt 13, 3) := by decide +kernel
theorem d_P_isSmall_18 : decode prog_1_method_13_code 18 = .ok (.iload_n 0, 1) := by decide +kernel
theorem d_P_isSmall_19 : decode prog_1_method_13_code 19 = .ok (.bipush 57, 2) := by decide +kernel
theorem d_P_isSmall_21 : decode prog_1_method_13_code 21 = .ok (.if_icmp .gt 7, 3) := by decide +kernel
theorem d_P_isSmall_24 : decode prog_1_method_13_code 24 = .ok (.iconst 1, 1) := by decide +kernel
theorem d_P_isSmall_25 : decode prog_1_method_13_code 25 = .ok (.goto 4, 3) := by decide +kernel
theorem d_P_isSmall_28 : decode prog_1_method_13_code 28 = .ok (.iconst 0, 1) := by decide +kernel
theorem d_P_isSmall_29 : decode prog_1_method_13_code 29 = .ok (.ireturn, 1) := by decide +kernel
theorem d_P_isWordLetter_0 : decode prog_1_method_14_code 0 = .ok (.iload_n 0, 1) := by decide +kernel
theorem d_P_isWordLetter_1 : decode prog_1_method_14_code 1 = .ok (.invokestatic 106, 3) := by decide +kernel
theorem d_P_isWordLetter_4 : decode prog_1_method_14_code 4 = .ok (.ifCond .ne 21, 3) := by decide +kernel
theorem d_P_isWordLetter_7 : decode prog_1_method_14_code 7 = .ok (.iload_n 0, 1) := by decide +kernel
theorem d_P_isWordLetter_8 : decode prog_1_method_14_code 8 = .ok (.bipush 65, 2) := by decide +kernel
theorem d_P_isWordLetter_10 : decode prog_1_method_14_code 10 = .ok (.if_icmp .lt 9, 3) := by decide +kernel
theorem d_P_isWordLetter_13 : decode prog_1_method_14_code 13 = .ok (.iload_n 0, 1) := by decide +kernel
theorem d_P_isWordLetter_14 : decode prog_1_method_14_code 14 = .ok (.bipush 90, 2) := by decide +kernel
theorem d_P_isWordLetter_16 : decode prog_1_method_14_code 16 = .ok (.if_icmp .le 9, 3) := by decide +kernel
theorem d_P_isWordLetter_19 : decode prog_1_method_14_code 19 = .ok (.iload_n 0, 1) := by decide +kernel
theorem d_P_isWordLetter_20 : decode prog_1_method_14_code 20 = .ok (.bipush 95, 2) := by decide +kernel
theorem d_P_isWordLetter_22 : decode prog_1_method_14_code 22 = .ok (.if_icmp .ne 7, 3) := by decide +kernel
theorem d_P_isWordLetter_25 : decode prog_1_method_14_code 25 = .ok (.iconst 1, 1) := by decide +kernel
theorem d_P_isWordLetter_26 : decode prog_1_method_14_code 26 = .ok (.goto 4, 3) := by decide +kernel
theorem d_P_isWordLetter_29 : decode prog_1_method_14_code 29 = .ok (.iconst 0, 1) := by decide +kernel
theorem d_P_isWordLetter_30 : decode prog_1_method_14_code 30 = .ok (.ireturn, 1) := by decide +kernel
theorem d_Str_isLatin1_0 : decode prog_16_method_154_code 0 = .ok (.getstatic 38, 3) := by decide +kernel
theorem d_Str_isLatin1_3 : decode prog_16_method_154_code 3 = .ok (.ifCond .eq 14, 3) := by decide +kernel
theorem d_Str_isLatin1_6 : decode prog_16_method_154_code 6 = .ok (.aload_n 0, 1) := by decide +kernel
theorem d_Str_isLatin1_7 : decode prog_16_method_154_code 7 = .ok (.getfield 15, 3) := by decide +kernel
theorem d_Str_isLatin1_10 : decode prog_16_method_154_code 10 = .ok (.ifCond .ne 7, 3) := by decide +kernel
theorem d_Str_isLatin1_13 : decode prog_16_method_154_code 13 = .ok (.iconst 1, 1) := by decide +kernel
theorem d_Str_isLatin1_14 : decode prog_16_method_154_code 14 = .ok (.goto 4, 3) := by decide +kernel
theorem d_Str_isLatin1_18 : decode prog_16_method_154_code 18 = .ok (.ireturn, 1) := by decide +kernel
theorem d_Str_coder_0 : decode prog_16_method_152_code 0 = .ok (.getstatic 38, 3) := by decide +kernel
theorem d_Str_coder_3 : decode prog_16_method_152_code 3 = .ok (.ifCond .eq 10, 3) := by decide +kernel
theorem d_Str_coder_6 : decode prog_16_method_152_code 6 = .ok (.aload_n 0, 1) := by decide +kernel
theorem d_Str_coder_7 : decode prog_16_method_152_code 7 = .ok (.getfield 15, 3) := by decide +kernel
theorem d_Str_coder_10 : decode prog_16_method_152_code 10 = .ok (.goto 4, 3) := by decide +kernel
theorem d_Str_coder_14 : decode prog_16_method_152_code 14 = .ok (.ireturn, 1) := by decide +kernel
theorem d_Str_length_0 : decode prog_16_method_54_code 0 = .ok (.aload_n 0, 1) := by decide +kernel
theorem d_Str_length_1 : decode prog_16_method_54_code 1 = .ok (.getfield 9, 3) := by decide +kernel
theorem d_Str_length_4 : decode prog_16_method_54_code 4 = .ok (.arraylength, 1) := by decide +kernel
theorem d_Str_length_5 : decode prog_16_method_54_code 5 = .ok (.aload_n 0, 1) := by decide +kernel
theorem d_Str_length_6 : decode prog_16_method_54_code 6 = .ok (.invokevirtual 335, 3) := by decide +kernel
theorem d_Str_length_9 : decode prog_16_method_54_code 9 = .ok (.ishr, 1) := by decide +kernel
theorem d_Str_length_10 : decode prog_16_method_54_code 10 = .ok (.ireturn, 1) := by decide +kernel
theorem d_Lat_canEncode_0 : decode prog_17_method_4_code 0 = .ok (.iload_n 0, 1) := by decide +kernel
theorem d_Lat_canEncode_1 : decode prog_17_method_4_code 1 = .ok (.ifCond .lt 14, 3) := by decide +kernel
theorem d_Lat_canEncode_4 : decode prog_17_method_4_code 4 = .ok (.iload_n 0, 1) := by decide +kernel
theorem d_Lat_canEncode_5 : decode prog_17_method_4_code 5 = .ok (.sipush 255, 3) := by decide +kernel
theorem d_Lat_canEncode_8 : decode prog_17_method_4_code 8 = .ok (.if_icmp .gt 7, 3) := by decide +kernel
theorem d_Lat_canEncode_11 : decode prog_17_method_4_code 11 = .ok (.iconst 1, 1) := by decide +kernel
theorem d_Lat_canEncode_12 : decode prog_17_method_4_code 12 = .ok (.goto 4, 3) := by decide +kernel
theorem d_Lat_canEncode_15 : decode prog_17_method_4_code 15 = .ok (.iconst 0, 1) := by decide +kernel
theorem d_Lat_canEncode_16 : decode prog_17_method_4_code 16 = .ok (.ireturn, 1) := by decide +kernel
theorem d_Lat_indexOfChar_0 : decode prog_17_method_23_code 0 = .ok (.iload_n 1, 1) := by decide +kernel
theorem d_Lat_indexOfChar_1 : decode prog_17_method_23_code 1 = .ok (.i2b, 1) := by decide +kernel
theorem d_Lat_indexOfChar_2 : decode prog_17_method_23_code 2 = .ok (.istore 4, 2) := by decide +kernel
theorem d_Lat_indexOfChar_4 : decode prog_17_method_23_code 4 = .ok (.iload_n 2, 1) := by decide +kernel
theorem d_Lat_indexOfChar_5 : decode prog_17_method_23_code 5 = .ok (.istore 5, 2) := by decide +kernel
theorem d_Lat_indexOfChar_7 : decode prog_17_method_23_code 7 = .ok (.iload 5, 2) := by decide +kernel
theorem d_Lat_indexOfChar_9 : decode prog_17_method_23_code 9 = .ok (.iload_n 3, 1) := by decide +kernel
theorem d_Lat_indexOfChar_10 : decode prog_17_method_23_code 10 = .ok (.if_icmp .ge 21, 3) := by decide +kernel
theorem d_Lat_indexOfChar_13 : decode prog_17_method_23_code 13 = .ok (.aload_n 0, 1) := by decide +kernel
theorem d_Lat_indexOfChar_14 : decode prog_17_method_23_code 14 = .ok (.iload 5, 2) := by decide +kernel
theorem d_Lat_indexOfChar_16 : decode prog_17_method_23_code 16 = .ok (.baload, 1) := by decide +kernel
theorem d_Lat_indexOfChar_17 : decode prog_17_method_23_code 17 = .ok (.iload 4, 2) := by decide +kernel
theorem d_Lat_indexOfChar_19 : decode prog_17_method_23_code 19 = .ok (.if_icmp .ne 6, 3) := by decide +kernel
theorem d_Lat_indexOfChar_22 : decode prog_17_method_23_code 22 = .ok (.iload 5, 2) := by decide +kernel
theorem d_Lat_indexOfChar_24 : decode prog_17_method_23_code 24 = .ok (.ireturn, 1) := by decide +kernel
theorem d_Lat_indexOfChar_25 : decode prog_17_method_23_code 25 = .ok (.iinc 5 1, 3) := by decide +kernel
theorem d_Lat_indexOfChar_28 : decode prog_17_method_23_code 28 = .ok (.goto (-21), 3) := by decide +kernel
theorem d_Lat_indexOfChar_31 : decode prog_17_method_23_code 31 = .ok (.iconst (-1), 1) := by decide +kernel
theorem d_Lat_indexOfChar_32 : decode prog_17_method_23_code 32 = .ok (.ireturn, 1) := by decide +kernel
theorem d_Lat_indexOf_0 : decode prog_17_method_22_code 0 = .ok (.iload_n 1, 1) := by decide +kernel
theorem d_Lat_indexOf_1 : decode prog_17_method_22_code 1 = .ok (.invokestatic 88, 3) := by decide +kernel
theorem d_Lat_indexOf_4 : decode prog_17_method_22_code 4 = .ok (.ifCond .ne 5, 3) := by decide +kernel
theorem d_Lat_indexOf_7 : decode prog_17_method_22_code 7 = .ok (.iconst (-1), 1) := by decide +kernel
theorem d_Lat_indexOf_8 : decode prog_17_method_22_code 8 = .ok (.ireturn, 1) := by decide +kernel
theorem d_Lat_indexOf_9 : decode prog_17_method_22_code 9 = .ok (.iload_n 2, 1) := by decide +kernel
theorem d_Lat_indexOf_10 : decode prog_17_method_22_code 10 = .ok (.iconst 0, 1) := by decide +kernel
theorem d_Lat_indexOf_11 : decode prog_17_method_22_code 11 = .ok (.invokestatic 92, 3) := by decide +kernel
theorem d_Lat_indexOf_14 : decode prog_17_method_22_code 14 = .ok (.istore_n 2, 1) := by decide +kernel
theorem d_Lat_indexOf_15 : decode prog_17_method_22_code 15 = .ok (.iload_n 3, 1) := by decide +kernel
theorem d_Lat_indexOf_16 : decode prog_17_method_22_code 16 = .ok (.aload_n 0, 1) := by decide +kernel
theorem d_Lat_indexOf_17 : decode prog_17_method_22_code 17 = .ok (.arraylength, 1) := by decide +kernel
theorem d_Lat_indexOf_18 : decode prog_17_method_22_code 18 = .ok (.invokestatic 38, 3) := by decide +kernel
theorem d_Lat_indexOf_21 : decode prog_17_method_22_code 21 = .ok (.istore_n 3, 1) := by decide +kernel
theorem d_Lat_indexOf_22 : decode prog_17_method_22_code 22 = .ok (.iload_n 2, 1) := by decide +kernel
theorem d_Lat_indexOf_23 : decode prog_17_method_22_code 23 = .ok (.iload_n 3, 1) := by decide +kernel
theorem d_Lat_indexOf_24 : decode prog_17_method_22_code 24 = .ok (.if_icmp .lt 5, 3) := by decide +kernel
theorem d_Lat_indexOf_27 : decode prog_17_method_22_code 27 = .ok (.iconst (-1), 1) := by decide +kernel
theorem d_Lat_indexOf_28 : decode prog_17_method_22_code 28 = .ok (.ireturn, 1) := by decide +kernel
theorem d_Lat_indexOf_29 : decode prog_17_method_22_code 29 = .ok (.aload_n 0, 1) := by decide +kernel
theorem d_Lat_indexOf_30 : decode prog_17_method_22_code 30 = .ok (.iload_n 1, 1) := by decide +kernel
theorem d_Lat_indexOf_31 : decode prog_17_method_22_code 31 = .ok (.iload_n 2, 1) := by decide +kernel
theorem d_Lat_indexOf_32 : decode prog_17_method_22_code 32 = .ok (.iload_n 3, 1) := by decide +kernel
theorem d_Lat_indexOf_33 : decode prog_17_method_22_code 33 = .ok (.invokestatic 95, 3) := by decide +kernel
theorem d_Lat_indexOf_36 : decode prog_17_method_22_code 36 = .ok (.ireturn, 1) := by decide +kernel
theorem d_Str_indexOf2_0 : decode prog_16_method_80_code 0 = .ok (.aload_n 0, 1) := by decide +kernel
theorem d_Str_indexOf2_1 : decode prog_16_method_80_code 1 = .ok (.invokevirtual 492, 3) := by decide +kernel
theorem d_Str_indexOf2_4 : decode prog_16_method_80_code 4 = .ok (.ifCond .eq 19, 3) := by decide +kernel
theorem d_Str_indexOf2_7 : decode prog_16_method_80_code 7 = .ok (.aload_n 0, 1) := by decide +kernel
theorem d_Str_indexOf2_8 : decode prog_16_method_80_code 8 = .ok (.getfield 9, 3) := by decide +kernel
theorem d_Str_indexOf2_11 : decode prog_16_method_80_code 11 = .ok (.iload_n 1, 1) := by decide +kernel
theorem d_Str_indexOf2_12 : decode prog_16_method_80_code 12 = .ok (.iload_n 2, 1) := by decide +kernel
theorem d_Str_indexOf2_13 : decode prog_16_method_80_code 13 = .ok (.aload_n 0, 1) := by decide +kernel
theorem d_Str_indexOf2_14 : decode prog_16_method_80_code 14 = .ok (.invokevirtual 505, 3) := by decide +kernel
theorem d_Str_indexOf2_17 : decode prog_16_method_80_code 17 = .ok (.invokestatic 637, 3) := by decide +kernel
theorem d_Str_indexOf2_20 : decode prog_16_method_80_code 20 = .ok (.goto 16, 3) := by decide +kernel
theorem d_Str_indexOf2_36 : decode prog_16_method_80_code 36 = .ok (.ireturn, 1) := by decide +kernel
theorem d_Str_indexOf_0 : decode prog_16_method_79_code 0 = .ok (.aload_n 0, 1) := by decide +kernel
theorem d_Str_indexOf_1 : decode prog_16_method_79_code 1 = .ok (.iload_n 1, 1) := by decide +kernel
theorem d_Str_indexOf_2 : decode prog_16_method_79_code 2 = .ok (.iconst 0, 1) := by decide +kernel
theorem d_Str_indexOf_3 : decode prog_16_method_79_code 3 = .ok (.invokevirtual 633, 3) := by decide +kernel
theorem d_Str_indexOf_6 : decode prog_16_method_79_code 6 = .ok (.ireturn, 1) := by decide +kernel
theorem d_Text_add_0 : decode prog_10_method_2_code 0 = .ok (.iconst 0, 1) := by decide +kernel
theorem d_Text_add_1 : decode prog_10_method_2_code 1 = .ok (.istore_n 3, 1) := by decide +kernel
theorem d_Text_add_2 : decode prog_10_method_2_code 2 = .ok (.iload_n 3, 1) := by decide +kernel
theorem d_Text_add_3 : decode prog_10_method_2_code 3 = .ok (.bipush 8, 2) := by decide +kernel
theorem d_Text_add_5 : decode prog_10_method_2_code 5 = .ok (.if_icmp .ge 44, 3) := by decide +kernel
theorem d_Text_add_8 : decode prog_10_method_2_code 8 = .ok (.lload_n 1, 1) := by decide +kernel
theorem d_Text_add_9 : decode prog_10_method_2_code 9 = .ok (.iload_n 3, 1) := by decide +kernel
theorem d_Text_add_10 : decode prog_10_method_2_code 10 = .ok (.invokestatic 15, 3) := by decide +kernel
theorem d_Text_add_13 : decode prog_10_method_2_code 13 = .ok (.ifCond .eq 36, 3) := by decide +kernel
theorem d_Text_add_16 : decode prog_10_method_2_code 16 = .ok (.lload_n 1, 1) := by decide +kernel
theorem d_Text_add_17 : decode prog_10_method_2_code 17 = .ok (.iload_n 3, 1) := by decide +kernel
theorem d_Text_add_18 : decode prog_10_method_2_code 18 = .ok (.invokestatic 15, 3) := by decide +kernel
theorem d_Text_add_21 : decode prog_10_method_2_code 21 = .ok (.istore 4, 2) := by decide +kernel
theorem d_Text_add_23 : decode prog_10_method_2_code 23 = .ok (.iload 4, 2) := by decide +kernel
theorem d_Text_add_25 : decode prog_10_method_2_code 25 = .ok (.invokestatic 19, 3) := by decide +kernel
theorem d_Text_add_28 : decode prog_10_method_2_code 28 = .ok (.ifCond .ne 15, 3) := by decide +kernel
theorem d_Text_add_31 : decode prog_10_method_2_code 31 = .ok (.ldc 23, 2) := by decide +kernel
theorem d_Text_add_33 : decode prog_10_method_2_code 33 = .ok (.iload 4, 2) := by decide +kernel
theorem d_Text_add_35 : decode prog_10_method_2_code 35 = .ok (.invokevirtual 25, 3) := by decide +kernel
theorem d_Text_add_38 : decode prog_10_method_2_code 38 = .ok (.ifCond .ge 5, 3) := by decide +kernel
theorem d_Text_add_41 : decode prog_10_method_2_code 41 = .ok (.iconst 0, 1) := by decide +kernel
theorem d_Text_add_42 : decode prog_10_method_2_code 42 = .ok (.ireturn, 1) := by decide +kernel
theorem d_Text_add_43 : decode prog_10_method_2_code 43 = .ok (.iinc 3 1, 3) := by decide +kernel
theorem d_Text_add_46 : decode prog_10_method_2_code 46 = .ok (.goto (-44), 3) := by decide +kernel
theorem d_Text_add_49 : decode prog_10_method_2_code 49 = .ok (.aload_n 0, 1) := by decide +kernel
theorem d_Text_add_50 : decode prog_10_method_2_code 50 = .ok (.getfield 31, 3) := by decide +kernel
theorem d_Text_add_53 : decode prog_10_method_2_code 53 = .ok (.iload_n 3, 1) := by decide +kernel
theorem d_Text_add_54 : decode prog_10_method_2_code 54 = .ok (.iadd, 1) := by decide +kernel
theorem d_Text_add_55 : decode prog_10_method_2_code 55 = .ok (.sipush 240, 3) := by decide +kernel
theorem d_Text_add_58 : decode prog_10_method_2_code 58 = .ok (.if_icmp .le 5, 3) := by decide +kernel
theorem d_Text_add_61 : decode prog_10_method_2_code 61 = .ok (.iconst 0, 1) := by decide +kernel
theorem d_Text_add_62 : decode prog_10_method_2_code 62 = .ok (.ireturn, 1) := by decide +kernel
theorem d_Text_add_63 : decode prog_10_method_2_code 63 = .ok (.iconst 0, 1) := by decide +kernel
theorem d_Text_add_64 : decode prog_10_method_2_code 64 = .ok (.istore 4, 2) := by decide +kernel
theorem d_Text_add_66 : decode prog_10_method_2_code 66 = .ok (.iload 4, 2) := by decide +kernel
theorem d_Text_add_68 : decode prog_10_method_2_code 68 = .ok (.iload_n 3, 1) := by decide +kernel
theorem d_Text_add_69 : decode prog_10_method_2_code 69 = .ok (.if_icmp .ge 27, 3) := by decide +kernel
theorem d_Text_add_72 : decode prog_10_method_2_code 72 = .ok (.aload_n 0, 1) := by decide +kernel
theorem d_Text_add_73 : decode prog_10_method_2_code 73 = .ok (.getfield 9, 3) := by decide +kernel
theorem d_Text_add_76 : decode prog_10_method_2_code 76 = .ok (.aload_n 0, 1) := by decide +kernel
theorem d_Text_add_77 : decode prog_10_method_2_code 77 = .ok (.getfield 31, 3) := by decide +kernel
theorem d_Text_add_80 : decode prog_10_method_2_code 80 = .ok (.iload 4, 2) := by decide +kernel
theorem d_Text_add_82 : decode prog_10_method_2_code 82 = .ok (.iadd, 1) := by decide +kernel
theorem d_Text_add_83 : decode prog_10_method_2_code 83 = .ok (.lload_n 1, 1) := by decide +kernel
theorem d_Text_add_84 : decode prog_10_method_2_code 84 = .ok (.iload 4, 2) := by decide +kernel
theorem d_Text_add_86 : decode prog_10_method_2_code 86 = .ok (.invokestatic 15, 3) := by decide +kernel
theorem d_Text_add_89 : decode prog_10_method_2_code 89 = .ok (.castore, 1) := by decide +kernel
theorem d_Text_add_90 : decode prog_10_method_2_code 90 = .ok (.iinc 4 1, 3) := by decide +kernel
theorem d_Text_add_93 : decode prog_10_method_2_code 93 = .ok (.goto (-27), 3) := by decide +kernel
theorem d_Text_add_96 : decode prog_10_method_2_code 96 = .ok (.aload_n 0, 1) := by decide +kernel
theorem d_Text_add_97 : decode prog_10_method_2_code 97 = .ok (.dup, 1) := by decide +kernel
theorem d_Text_add_98 : decode prog_10_method_2_code 98 = .ok (.getfield 31, 3) := by decide +kernel
theorem d_Text_add_101 : decode prog_10_method_2_code 101 = .ok (.iload_n 3, 1) := by decide +kernel
theorem d_Text_add_102 : decode prog_10_method_2_code 102 = .ok (.iadd, 1) := by decide +kernel
theorem d_Text_add_103 : decode prog_10_method_2_code 103 = .ok (.putfield 31, 3) := by decide +kernel
theorem d_Text_add_106 : decode prog_10_method_2_code 106 = .ok (.iconst 1, 1) := by decide +kernel
theorem d_Text_add_107 : decode prog_10_method_2_code 107 = .ok (.ireturn, 1) := by decide +kernel
theorem d_P_type_0 : decode prog_1_method_2_code 0 = .ok (.aload_n 0, 1) := by decide +kernel
theorem d_P_type_1 : decode prog_1_method_2_code 1 = .ok (.getfield 12, 3) := by decide +kernel
theorem d_P_type_4 : decode prog_1_method_2_code 4 = .ok (.lload_n 1, 1) := by decide +kernel
theorem d_P_type_5 : decode prog_1_method_2_code 5 = .ok (.invokevirtual 50, 3) := by decide +kernel
theorem d_P_type_8 : decode prog_1_method_2_code 8 = .ok (.ireturn, 1) := by decide +kernel
theorem d_Cho_keepFirst_0 : decode prog_2_method_4_code 0 = .ok (.aload_n 0, 1) := by decide +kernel
theorem d_Cho_keepFirst_1 : decode prog_2_method_4_code 1 = .ok (.aload_n 0, 1) := by decide +kernel
theorem d_Cho_keepFirst_2 : decode prog_2_method_4_code 2 = .ok (.getfield 30, 3) := by decide +kernel
theorem d_Cho_keepFirst_5 : decode prog_2_method_4_code 5 = .ok (.iload_n 1, 1) := by decide +kernel
theorem d_Cho_keepFirst_6 : decode prog_2_method_4_code 6 = .ok (.iconst 0, 1) := by decide +kernel
theorem d_Cho_keepFirst_7 : decode prog_2_method_4_code 7 = .ok (.invokestatic 43, 3) := by decide +kernel
theorem d_Cho_keepFirst_10 : decode prog_2_method_4_code 10 = .ok (.invokestatic 49, 3) := by decide +kernel
theorem d_Cho_keepFirst_13 : decode prog_2_method_4_code 13 = .ok (.putfield 30, 3) := by decide +kernel
theorem d_Cho_keepFirst_16 : decode prog_2_method_4_code 16 = .ok (.return_, 1) := by decide +kernel
theorem d_Goa_goBack_0 : decode prog_5_method_4_code 0 = .ok (.aload_n 0, 1) := by decide +kernel
theorem d_Goa_goBack_1 : decode prog_5_method_4_code 1 = .ok (.iload_n 1, 1) := by decide +kernel
theorem d_Goa_goBack_2 : decode prog_5_method_4_code 2 = .ok (.putfield 21, 3) := by decide +kernel
theorem d_Goa_goBack_5 : decode prog_5_method_4_code 5 = .ok (.aload_n 0, 1) := by decide +kernel
theorem d_Goa_goBack_6 : decode prog_5_method_4_code 6 = .ok (.iload_n 2, 1) := by decide +kernel
theorem d_Goa_goBack_7 : decode prog_5_method_4_code 7 = .ok (.putfield 25, 3) := by decide +kernel
theorem d_Goa_goBack_10 : decode prog_5_method_4_code 10 = .ok (.return_, 1) := by decide +kernel
theorem d_Ter_goBack_0 : decode prog_9_method_4_code 0 = .ok (.aload_n 0, 1) := by decide +kernel
theorem d_Ter_goBack_1 : decode prog_9_method_4_code 1 = .ok (.getfield 37, 3) := by decide +kernel
theorem d_Ter_goBack_4 : decode prog_9_method_4_code 4 = .ok (.iload_n 2, 1) := by decide +kernel
theorem d_Ter_goBack_5 : decode prog_9_method_4_code 5 = .ok (.if_icmp .le 38, 3) := by decide +kernel
theorem d_Ter_goBack_8 : decode prog_9_method_4_code 8 = .ok (.aload_n 0, 1) := by decide +kernel
theorem d_Ter_goBack_9 : decode prog_9_method_4_code 9 = .ok (.getfield 37, 3) := by decide +kernel
theorem d_Ter_goBack_12 : decode prog_9_method_4_code 12 = .ok (.ifCond .le 31, 3) := by decide +kernel
theorem d_Ter_goBack_15 : decode prog_9_method_4_code 15 = .ok (.aload_n 0, 1) := by decide +kernel
theorem d_Ter_goBack_16 : decode prog_9_method_4_code 16 = .ok (.dup, 1) := by decide +kernel
theorem d_Ter_goBack_17 : decode prog_9_method_4_code 17 = .ok (.getfield 37, 3) := by decide +kernel
theorem d_Ter_goBack_20 : decode prog_9_method_4_code 20 = .ok (.iconst 1, 1) := by decide +kernel
theorem d_Ter_goBack_21 : decode prog_9_method_4_code 21 = .ok (.isub, 1) := by decide +kernel
theorem d_Ter_goBack_22 : decode prog_9_method_4_code 22 = .ok (.putfield 37, 3) := by decide +kernel
theorem d_Ter_goBack_25 : decode prog_9_method_4_code 25 = .ok (.aload_n 0, 1) := by decide +kernel
theorem d_Ter_goBack_26 : decode prog_9_method_4_code 26 = .ok (.getfield 18, 3) := by decide +kernel
theorem d_Ter_goBack_29 : decode prog_9_method_4_code 29 = .ok (.aload_n 0, 1) := by decide +kernel
theorem d_Ter_goBack_30 : decode prog_9_method_4_code 30 = .ok (.getfield 24, 3) := by decide +kernel
theorem d_Ter_goBack_33 : decode prog_9_method_4_code 33 = .ok (.aload_n 0, 1) := by decide +kernel
theorem d_Ter_goBack_34 : decode prog_9_method_4_code 34 = .ok (.getfield 37, 3) := by decide +kernel
theorem d_Ter_goBack_37 : decode prog_9_method_4_code 37 = .ok (.iaload, 1) := by decide +kernel
theorem d_Ter_goBack_38 : decode prog_9_method_4_code 38 = .ok (.iconst (-1), 1) := by decide +kernel
theorem d_Ter_goBack_39 : decode prog_9_method_4_code 39 = .ok (.iastore, 1) := by decide +kernel
theorem d_Ter_goBack_40 : decode prog_9_method_4_code 40 = .ok (.goto (-40), 3) := by decide +kernel
theorem d_Ter_goBack_43 : decode prog_9_method_4_code 43 = .ok (.aload_n 0, 1) := by decide +kernel
theorem d_Ter_goBack_44 : decode prog_9_method_4_code 44 = .ok (.iload_n 1, 1) := by decide +kernel
theorem d_Ter_goBack_45 : decode prog_9_method_4_code 45 = .ok (.putfield 33, 3) := by decide +kernel
theorem d_Ter_goBack_48 : decode prog_9_method_4_code 48 = .ok (.return_, 1) := by decide +kernel
theorem d_Wri_clear_0 : decode prog_8_method_2_code 0 = .ok (.aload_n 0, 1) := by decide +kernel
theorem d_Wri_clear_1 : decode prog_8_method_2_code 1 = .ok (.iconst 0, 1) := by decide +kernel
theorem d_Wri_clear_2 : decode prog_8_method_2_code 2 = .ok (.putfield 33, 3) := by decide +kernel
theorem d_Wri_clear_5 : decode prog_8_method_2_code 5 = .ok (.aload_n 0, 1) := by decide +kernel
theorem d_Wri_clear_6 : decode prog_8_method_2_code 6 = .ok (.iconst 0, 1) := by decide +kernel
theorem d_Wri_clear_7 : decode prog_8_method_2_code 7 = .ok (.putfield 37, 3) := by decide +kernel
theorem d_Wri_clear_10 : decode prog_8_method_2_code 10 = .ok (.aload_n 0, 1) := by decide +kernel
theorem d_Wri_clear_11 : decode prog_8_method_2_code 11 = .ok (.iconst 0, 1) := by decide +kernel
theorem d_Wri_clear_12 : decode prog_8_method_2_code 12 = .ok (.putfield 40, 3) := by decide +kernel
theorem d_Wri_clear_15 : decode prog_8_method_2_code 15 = .ok (.return_, 1) := by decide +kernel
theorem d_Sea_end_0 : decode prog_7_method_2_code 0 = .ok (.aload_n 0, 1) := by decide +kernel
theorem d_Sea_end_1 : decode prog_7_method_2_code 1 = .ok (.iconst (-1), 1) := by decide +kernel
theorem d_Sea_end_2 : decode prog_7_method_2_code 2 = .ok (.putfield 36, 3) := by decide +kernel
theorem d_Sea_end_5 : decode prog_7_method_2_code 5 = .ok (.aload_n 0, 1) := by decide +kernel
theorem d_Sea_end_6 : decode prog_7_method_2_code 6 = .ok (.iconst 0, 1) := by decide +kernel
theorem d_Sea_end_7 : decode prog_7_method_2_code 7 = .ok (.putfield 57, 3) := by decide +kernel
theorem d_Sea_end_10 : decode prog_7_method_2_code 10 = .ok (.aload_n 0, 1) := by decide +kernel
theorem d_Sea_end_11 : decode prog_7_method_2_code 11 = .ok (.iconst 0, 1) := by decide +kernel
theorem d_Sea_end_12 : decode prog_7_method_2_code 12 = .ok (.putfield 61, 3) := by decide +kernel
theorem d_Sea_end_15 : decode prog_7_method_2_code 15 = .ok (.aload_n 0, 1) := by decide +kernel
theorem d_Sea_end_16 : decode prog_7_method_2_code 16 = .ok (.iconst 0, 1) := by decide +kernel
theorem d_Sea_end_17 : decode prog_7_method_2_code 17 = .ok (.putfield 64, 3) := by decide +kernel
theorem d_Sea_end_20 : decode prog_7_method_2_code 20 = .ok (.aload_n 0, 1) := by decide +kernel
theorem d_Sea_end_21 : decode prog_7_method_2_code 21 = .ok (.iconst 0, 1) := by decide +kernel
theorem d_Sea_end_22 : decode prog_7_method_2_code 22 = .ok (.putfield 67, 3) := by decide +kernel
theorem d_Sea_end_25 : decode prog_7_method_2_code 25 = .ok (.aload_n 0, 1) := by decide +kernel
theorem d_Sea_end_26 : decode prog_7_method_2_code 26 = .ok (.getfield 28, 3) := by decide +kernel
theorem d_Sea_end_29 : decode prog_7_method_2_code 29 = .ok (.iconst 0, 1) := by decide +kernel
theorem d_Sea_end_30 : decode prog_7_method_2_code 30 = .ok (.invokevirtual 70, 3) := by decide +kernel
theorem d_Sea_end_33 : decode prog_7_method_2_code 33 = .ok (.aload_n 0, 1) := by decide +kernel
theorem d_Sea_end_34 : decode prog_7_method_2_code 34 = .ok (.getfield 21, 3) := by decide +kernel
theorem d_Sea_end_37 : decode prog_7_method_2_code 37 = .ok (.iconst (-1), 1) := by decide +kernel
theorem d_Sea_end_38 : decode prog_7_method_2_code 38 = .ok (.iconst 0, 1) := by decide +kernel
theorem d_Sea_end_39 : decode prog_7_method_2_code 39 = .ok (.invokevirtual 74, 3) := by decide +kernel
theorem d_Sea_end_42 : decode prog_7_method_2_code 42 = .ok (.aload_n 0, 1) := by decide +kernel
theorem d_Sea_end_43 : decode prog_7_method_2_code 43 = .ok (.getfield 12, 3) := by decide +kernel
theorem d_Sea_end_46 : decode prog_7_method_2_code 46 = .ok (.iconst 0, 1) := by decide +kernel
theorem d_Sea_end_47 : decode prog_7_method_2_code 47 = .ok (.iconst 0, 1) := by decide +kernel
theorem d_Sea_end_48 : decode prog_7_method_2_code 48 = .ok (.invokevirtual 78, 3) := by decide +kernel
theorem d_Sea_end_51 : decode prog_7_method_2_code 51 = .ok (.aload_n 0, 1) := by decide +kernel
theorem d_Sea_end_52 : decode prog_7_method_2_code 52 = .ok (.getfield 53, 3) := by decide +kernel
theorem d_Sea_end_55 : decode prog_7_method_2_code 55 = .ok (.invokevirtual 79, 3) := by decide +kernel
theorem d_Sea_end_58 : decode prog_7_method_2_code 58 = .ok (.return_, 1) := by decide +kernel
theorem d_Cod_partCount_p_0 : decode prog_4_method_8_code 0 = .ok (.aload_n 0, 1) := by decide +kernel
theorem d_Cod_partCount_p_1 : decode prog_4_method_8_code 1 = .ok (.getfield 25, 3) := by decide +kernel
theorem d_Cod_partCount_p_4 : decode prog_4_method_8_code 4 = .ok (.ireturn, 1) := by decide +kernel
theorem d_Text_size_0 : decode prog_10_method_5_code 0 = .ok (.aload_n 0, 1) := by decide +kernel
theorem d_Text_size_1 : decode prog_10_method_5_code 1 = .ok (.getfield 31, 3) := by decide +kernel
theorem d_Text_size_4 : decode prog_10_method_5_code 4 = .ok (.ireturn, 1) := by decide +kernel
theorem d_Text_at_0 : decode prog_10_method_6_code 0 = .ok (.iload_n 1, 1) := by decide +kernel
theorem d_Text_at_1 : decode prog_10_method_6_code 1 = .ok (.ifCond .lt 20, 3) := by decide +kernel
theorem d_Text_at_4 : decode prog_10_method_6_code 4 = .ok (.iload_n 1, 1) := by decide +kernel
theorem d_Text_at_5 : decode prog_10_method_6_code 5 = .ok (.aload_n 0, 1) := by decide +kernel
theorem d_Text_at_6 : decode prog_10_method_6_code 6 = .ok (.getfield 31, 3) := by decide +kernel
theorem d_Text_at_9 : decode prog_10_method_6_code 9 = .ok (.if_icmp .ge 12, 3) := by decide +kernel
theorem d_Text_at_12 : decode prog_10_method_6_code 12 = .ok (.aload_n 0, 1) := by decide +kernel
theorem d_Text_at_13 : decode prog_10_method_6_code 13 = .ok (.getfield 9, 3) := by decide +kernel
theorem d_Text_at_16 : decode prog_10_method_6_code 16 = .ok (.iload_n 1, 1) := by decide +kernel
theorem d_Text_at_17 : decode prog_10_method_6_code 17 = .ok (.caload, 1) := by decide +kernel
theorem d_Text_at_18 : decode prog_10_method_6_code 18 = .ok (.goto 5, 3) := by decide +kernel
theorem d_Text_at_21 : decode prog_10_method_6_code 21 = .ok (.bipush 32, 2) := by decide +kernel
theorem d_Text_at_23 : decode prog_10_method_6_code 23 = .ok (.ireturn, 1) := by decide +kernel
theorem d_Tok_lengthenWord_0 : decode prog_11_method_4_code 0 = .ok (.aload_n 0, 1) := by decide +kernel
theorem d_Tok_lengthenWord_1 : decode prog_11_method_4_code 1 = .ok (.getfield 23, 3) := by decide +kernel
theorem d_Tok_lengthenWord_4 : decode prog_11_method_4_code 4 = .ok (.iconst 1, 1) := by decide +kernel
theorem d_Tok_lengthenWord_5 : decode prog_11_method_4_code 5 = .ok (.isub, 1) := by decide +kernel
theorem d_Tok_lengthenWord_6 : decode prog_11_method_4_code 6 = .ok (.istore_n 3, 1) := by decide +kernel
theorem d_Tok_lengthenWord_7 : decode prog_11_method_4_code 7 = .ok (.iload_n 3, 1) := by decide +kernel
theorem d_Tok_lengthenWord_8 : decode prog_11_method_4_code 8 = .ok (.ifCond .ge 4, 3) := by decide +kernel
theorem d_Tok_lengthenWord_11 : decode prog_11_method_4_code 11 = .ok (.return_, 1) := by decide +kernel
theorem d_Tok_lengthenWord_12 : decode prog_11_method_4_code 12 = .ok (.iload_n 2, 1) := by decide +kernel
theorem d_Tok_lengthenWord_13 : decode prog_11_method_4_code 13 = .ok (.aload_n 0, 1) := by decide +kernel
theorem d_Tok_lengthenWord_14 : decode prog_11_method_4_code 14 = .ok (.getfield 15, 3) := by decide +kernel
theorem d_Tok_lengthenWord_17 : decode prog_11_method_4_code 17 = .ok (.iload_n 3, 1) := by decide +kernel
theorem d_Tok_lengthenWord_18 : decode prog_11_method_4_code 18 = .ok (.iaload, 1) := by decide +kernel
theorem d_Tok_lengthenWord_19 : decode prog_11_method_4_code 19 = .ok (.isub, 1) := by decide +kernel
theorem d_Tok_lengthenWord_20 : decode prog_11_method_4_code 20 = .ok (.istore 4, 2) := by decide +kernel
theorem d_Tok_lengthenWord_22 : decode prog_11_method_4_code 22 = .ok (.iload 4, 2) := by decide +kernel
theorem d_Tok_lengthenWord_24 : decode prog_11_method_4_code 24 = .ok (.bipush 8, 2) := by decide +kernel
theorem d_Tok_lengthenWord_26 : decode prog_11_method_4_code 26 = .ok (.if_icmp .ge 23, 3) := by decide +kernel
theorem d_Tok_lengthenWord_29 : decode prog_11_method_4_code 29 = .ok (.aload_n 0, 1) := by decide +kernel
theorem d_Tok_lengthenWord_30 : decode prog_11_method_4_code 30 = .ok (.getfield 19, 3) := by decide +kernel
theorem d_Tok_lengthenWord_33 : decode prog_11_method_4_code 33 = .ok (.iload_n 3, 1) := by decide +kernel
theorem d_Tok_lengthenWord_34 : decode prog_11_method_4_code 34 = .ok (.dup2, 1) := by decide +kernel
theorem d_Tok_lengthenWord_35 : decode prog_11_method_4_code 35 = .ok (.laload, 1) := by decide +kernel
theorem d_Tok_lengthenWord_36 : decode prog_11_method_4_code 36 = .ok (.iload_n 1, 1) := by decide +kernel
theorem d_Tok_lengthenWord_37 : decode prog_11_method_4_code 37 = .ok (.i2l, 1) := by decide +kernel
theorem d_Tok_lengthenWord_38 : decode prog_11_method_4_code 38 = .ok (.bipush 8, 2) := by decide +kernel
theorem d_Tok_lengthenWord_40 : decode prog_11_method_4_code 40 = .ok (.iload 4, 2) := by decide +kernel
theorem d_Tok_lengthenWord_42 : decode prog_11_method_4_code 42 = .ok (.imul, 1) := by decide +kernel
theorem d_Tok_lengthenWord_43 : decode prog_11_method_4_code 43 = .ok (.lshl, 1) := by decide +kernel
theorem d_Tok_lengthenWord_44 : decode prog_11_method_4_code 44 = .ok (.lor, 1) := by decide +kernel
theorem d_Tok_lengthenWord_45 : decode prog_11_method_4_code 45 = .ok (.lastore, 1) := by decide +kernel
theorem d_Tok_lengthenWord_46 : decode prog_11_method_4_code 46 = .ok (.goto 11, 3) := by decide +kernel
theorem d_Tok_lengthenWord_49 : decode prog_11_method_4_code 49 = .ok (.aload_n 0, 1) := by decide +kernel
theorem d_Tok_lengthenWord_50 : decode prog_11_method_4_code 50 = .ok (.getfield 9, 3) := by decide +kernel
theorem d_Tok_lengthenWord_53 : decode prog_11_method_4_code 53 = .ok (.iload_n 3, 1) := by decide +kernel
theorem d_Tok_lengthenWord_54 : decode prog_11_method_4_code 54 = .ok (.bipush 63, 2) := by decide +kernel
theorem d_Tok_lengthenWord_56 : decode prog_11_method_4_code 56 = .ok (.castore, 1) := by decide +kernel
theorem d_Tok_lengthenWord_57 : decode prog_11_method_4_code 57 = .ok (.return_, 1) := by decide +kernel
theorem d_Tok_put_0 : decode prog_11_method_3_code 0 = .ok (.aload_n 0, 1) := by decide +kernel
theorem d_Tok_put_1 : decode prog_11_method_3_code 1 = .ok (.getfield 23, 3) := by decide +kernel
theorem d_Tok_put_4 : decode prog_11_method_3_code 4 = .ok (.aload_n 0, 1) := by decide +kernel
theorem d_Tok_put_5 : decode prog_11_method_3_code 5 = .ok (.getfield 9, 3) := by decide +kernel
theorem d_Tok_put_8 : decode prog_11_method_3_code 8 = .ok (.arraylength, 1) := by decide +kernel
theorem d_Tok_put_9 : decode prog_11_method_3_code 9 = .ok (.if_icmp .ge 43, 3) := by decide +kernel
theorem d_Tok_put_12 : decode prog_11_method_3_code 12 = .ok (.aload_n 0, 1) := by decide +kernel
theorem d_Tok_put_13 : decode prog_11_method_3_code 13 = .ok (.getfield 9, 3) := by decide +kernel
theorem d_Tok_put_16 : decode prog_11_method_3_code 16 = .ok (.aload_n 0, 1) := by decide +kernel
theorem d_Tok_put_17 : decode prog_11_method_3_code 17 = .ok (.getfield 23, 3) := by decide +kernel
theorem d_Tok_put_20 : decode prog_11_method_3_code 20 = .ok (.iload_n 1, 1) := by decide +kernel
theorem d_Tok_put_21 : decode prog_11_method_3_code 21 = .ok (.castore, 1) := by decide +kernel
theorem d_Tok_put_22 : decode prog_11_method_3_code 22 = .ok (.aload_n 0, 1) := by decide +kernel
theorem d_Tok_put_23 : decode prog_11_method_3_code 23 = .ok (.getfield 15, 3) := by decide +kernel
theorem d_Tok_put_26 : decode prog_11_method_3_code 26 = .ok (.aload_n 0, 1) := by decide +kernel
theorem d_Tok_put_27 : decode prog_11_method_3_code 27 = .ok (.getfield 23, 3) := by decide +kernel
theorem d_Tok_put_30 : decode prog_11_method_3_code 30 = .ok (.iload_n 2, 1) := by decide +kernel
theorem d_Tok_put_31 : decode prog_11_method_3_code 31 = .ok (.iastore, 1) := by decide +kernel
theorem d_Tok_put_32 : decode prog_11_method_3_code 32 = .ok (.aload_n 0, 1) := by decide +kernel
theorem d_Tok_put_33 : decode prog_11_method_3_code 33 = .ok (.getfield 19, 3) := by decide +kernel
theorem d_Tok_put_36 : decode prog_11_method_3_code 36 = .ok (.aload_n 0, 1) := by decide +kernel
theorem d_Tok_put_37 : decode prog_11_method_3_code 37 = .ok (.getfield 23, 3) := by decide +kernel
theorem d_Tok_put_40 : decode prog_11_method_3_code 40 = .ok (.lload_n 3, 1) := by decide +kernel
theorem d_Tok_put_41 : decode prog_11_method_3_code 41 = .ok (.lastore, 1) := by decide +kernel
theorem d_Tok_put_42 : decode prog_11_method_3_code 42 = .ok (.aload_n 0, 1) := by decide +kernel
theorem d_Tok_put_43 : decode prog_11_method_3_code 43 = .ok (.dup, 1) := by decide +kernel
theorem d_Tok_put_44 : decode prog_11_method_3_code 44 = .ok (.getfield 23, 3) := by decide +kernel
theorem d_Tok_put_47 : decode prog_11_method_3_code 47 = .ok (.iconst 1, 1) := by decide +kernel
theorem d_Tok_put_48 : decode prog_11_method_3_code 48 = .ok (.iadd, 1) := by decide +kernel
theorem d_Tok_put_49 : decode prog_11_method_3_code 49 = .ok (.putfield 23, 3) := by decide +kernel
theorem d_Tok_put_52 : decode prog_11_method_3_code 52 = .ok (.return_, 1) := by decide +kernel
theorem d_Tok_completeNeck_0 : decode prog_11_method_5_code 0 = .ok (.aload_n 0, 1) := by decide +kernel
theorem d_Tok_completeNeck_1 : decode prog_11_method_5_code 1 = .ok (.getfield 23, 3) := by decide +kernel
theorem d_Tok_completeNeck_4 : decode prog_11_method_5_code 4 = .ok (.ifCond .le 16, 3) := by decide +kernel
theorem d_Tok_completeNeck_7 : decode prog_11_method_5_code 7 = .ok (.aload_n 0, 1) := by decide +kernel
theorem d_Tok_completeNeck_8 : decode prog_11_method_5_code 8 = .ok (.getfield 9, 3) := by decide +kernel
theorem d_Tok_completeNeck_11 : decode prog_11_method_5_code 11 = .ok (.aload_n 0, 1) := by decide +kernel
theorem d_Tok_completeNeck_12 : decode prog_11_method_5_code 12 = .ok (.getfield 23, 3) := by decide +kernel
theorem d_Tok_completeNeck_15 : decode prog_11_method_5_code 15 = .ok (.iconst 1, 1) := by decide +kernel
theorem d_Tok_completeNeck_16 : decode prog_11_method_5_code 16 = .ok (.isub, 1) := by decide +kernel
theorem d_Tok_completeNeck_17 : decode prog_11_method_5_code 17 = .ok (.bipush 58, 2) := by decide +kernel
theorem d_Tok_completeNeck_19 : decode prog_11_method_5_code 19 = .ok (.castore, 1) := by decide +kernel
theorem d_Tok_completeNeck_20 : decode prog_11_method_5_code 20 = .ok (.return_, 1) := by decide +kernel
theorem d_Tok_scan_0 : decode prog_11_method_2_code 0 = .ok (.aload_n 0, 1) := by decide +kernel
theorem d_Tok_scan_1 : decode prog_11_method_2_code 1 = .ok (.iconst 0, 1) := by decide +kernel
theorem d_Tok_scan_2 : decode prog_11_method_2_code 2 = .ok (.putfield 23, 3) := by decide +kernel
theorem d_Tok_scan_5 : decode prog_11_method_2_code 5 = .ok (.iconst 0, 1) := by decide +kernel
theorem d_Tok_scan_6 : decode prog_11_method_2_code 6 = .ok (.istore_n 2, 1) := by decide +kernel
theorem d_Tok_scan_7 : decode prog_11_method_2_code 7 = .ok (.iload_n 2, 1) := by decide +kernel
theorem d_Tok_scan_8 : decode prog_11_method_2_code 8 = .ok (.aload_n 1, 1) := by decide +kernel
theorem d_Tok_scan_9 : decode prog_11_method_2_code 9 = .ok (.invokevirtual 27, 3) := by decide +kernel
theorem d_Tok_scan_12 : decode prog_11_method_2_code 12 = .ok (.if_icmp .ge 143, 3) := by decide +kernel
theorem d_Tok_scan_15 : decode prog_11_method_2_code 15 = .ok (.aload_n 1, 1) := by decide +kernel
theorem d_Tok_scan_16 : decode prog_11_method_2_code 16 = .ok (.iload_n 2, 1) := by decide +kernel
theorem d_Tok_scan_17 : decode prog_11_method_2_code 17 = .ok (.iconst 1, 1) := by decide +kernel
theorem d_Tok_scan_18 : decode prog_11_method_2_code 18 = .ok (.isub, 1) := by decide +kernel
theorem d_Tok_scan_19 : decode prog_11_method_2_code 19 = .ok (.invokevirtual 33, 3) := by decide +kernel
theorem d_Tok_scan_22 : decode prog_11_method_2_code 22 = .ok (.istore_n 3, 1) := by decide +kernel
theorem d_Tok_scan_23 : decode prog_11_method_2_code 23 = .ok (.aload_n 1, 1) := by decide +kernel
theorem d_Tok_scan_24 : decode prog_11_method_2_code 24 = .ok (.iload_n 2, 1) := by decide +kernel
theorem d_Tok_scan_25 : decode prog_11_method_2_code 25 = .ok (.invokevirtual 33, 3) := by decide +kernel
theorem d_Tok_scan_28 : decode prog_11_method_2_code 28 = .ok (.istore 4, 2) := by decide +kernel
theorem d_Tok_scan_30 : decode prog_11_method_2_code 30 = .ok (.iload 4, 2) := by decide +kernel
theorem d_Tok_scan_32 : decode prog_11_method_2_code 32 = .ok (.invokestatic 37, 3) := by decide +kernel
theorem d_Tok_scan_35 : decode prog_11_method_2_code 35 = .ok (.ifCond .eq 20, 3) := by decide +kernel
theorem d_Tok_scan_38 : decode prog_11_method_2_code 38 = .ok (.iload_n 3, 1) := by decide +kernel
theorem d_Tok_scan_39 : decode prog_11_method_2_code 39 = .ok (.invokestatic 37, 3) := by decide +kernel
theorem d_Tok_scan_42 : decode prog_11_method_2_code 42 = .ok (.ifCond .eq 13, 3) := by decide +kernel
theorem d_Tok_scan_45 : decode prog_11_method_2_code 45 = .ok (.aload_n 0, 1) := by decide +kernel
theorem d_Tok_scan_46 : decode prog_11_method_2_code 46 = .ok (.iload 4, 2) := by decide +kernel
theorem d_Tok_scan_48 : decode prog_11_method_2_code 48 = .ok (.iload_n 2, 1) := by decide +kernel
theorem d_Tok_scan_49 : decode prog_11_method_2_code 49 = .ok (.invokevirtual 41, 3) := by decide +kernel
theorem d_Tok_scan_52 : decode prog_11_method_2_code 52 = .ok (.goto 97, 3) := by decide +kernel
theorem d_Tok_scan_55 : decode prog_11_method_2_code 55 = .ok (.iload 4, 2) := by decide +kernel
theorem d_Tok_scan_57 : decode prog_11_method_2_code 57 = .ok (.invokestatic 37, 3) := by decide +kernel
theorem d_Tok_scan_60 : decode prog_11_method_2_code 60 = .ok (.ifCond .eq 29, 3) := by decide +kernel
theorem d_Tok_scan_63 : decode prog_11_method_2_code 63 = .ok (.aload_n 0, 1) := by decide +kernel
theorem d_Tok_scan_64 : decode prog_11_method_2_code 64 = .ok (.iload 4, 2) := by decide +kernel
theorem d_Tok_scan_66 : decode prog_11_method_2_code 66 = .ok (.invokestatic 45, 3) := by decide +kernel
theorem d_Tok_scan_69 : decode prog_11_method_2_code 69 = .ok (.ifCond .eq 8, 3) := by decide +kernel
theorem d_Tok_scan_72 : decode prog_11_method_2_code 72 = .ok (.bipush 97, 2) := by decide +kernel
theorem d_Tok_scan_74 : decode prog_11_method_2_code 74 = .ok (.goto 5, 3) := by decide +kernel
theorem d_Tok_scan_77 : decode prog_11_method_2_code 77 = .ok (.bipush 65, 2) := by decide +kernel
theorem d_Tok_scan_79 : decode prog_11_method_2_code 79 = .ok (.iload_n 2, 1) := by decide +kernel
theorem d_Tok_scan_80 : decode prog_11_method_2_code 80 = .ok (.iload 4, 2) := by decide +kernel
theorem d_Tok_scan_82 : decode prog_11_method_2_code 82 = .ok (.i2l, 1) := by decide +kernel
theorem d_Tok_scan_83 : decode prog_11_method_2_code 83 = .ok (.invokevirtual 48, 3) := by decide +kernel
theorem d_Tok_scan_86 : decode prog_11_method_2_code 86 = .ok (.goto 63, 3) := by decide +kernel
theorem d_Tok_scan_89 : decode prog_11_method_2_code 89 = .ok (.iload 4, 2) := by decide +kernel
theorem d_Tok_scan_91 : decode prog_11_method_2_code 91 = .ok (.bipush 45, 2) := by decide +kernel
theorem d_Tok_scan_93 : decode prog_11_method_2_code 93 = .ok (.if_icmp .ne 16, 3) := by decide +kernel
theorem d_Tok_scan_96 : decode prog_11_method_2_code 96 = .ok (.iload_n 3, 1) := by decide +kernel
theorem d_Tok_scan_97 : decode prog_11_method_2_code 97 = .ok (.bipush 58, 2) := by decide +kernel
theorem d_Tok_scan_99 : decode prog_11_method_2_code 99 = .ok (.if_icmp .ne 10, 3) := by decide +kernel
theorem d_Tok_scan_102 : decode prog_11_method_2_code 102 = .ok (.aload_n 0, 1) := by decide +kernel
theorem d_Tok_scan_103 : decode prog_11_method_2_code 103 = .ok (.invokevirtual 52, 3) := by decide +kernel
theorem d_Tok_scan_106 : decode prog_11_method_2_code 106 = .ok (.goto 43, 3) := by decide +kernel
theorem d_Tok_scan_109 : decode prog_11_method_2_code 109 = .ok (.iload 4, 2) := by decide +kernel
theorem d_Tok_scan_111 : decode prog_11_method_2_code 111 = .ok (.bipush 58, 2) := by decide +kernel
theorem d_Tok_scan_113 : decode prog_11_method_2_code 113 = .ok (.if_icmp .eq 10, 3) := by decide +kernel
theorem d_Tok_scan_116 : decode prog_11_method_2_code 116 = .ok (.iload 4, 2) := by decide +kernel
theorem d_Tok_scan_118 : decode prog_11_method_2_code 118 = .ok (.bipush 45, 2) := by decide +kernel
theorem d_Tok_scan_120 : decode prog_11_method_2_code 120 = .ok (.if_icmp .ne 14, 3) := by decide +kernel
theorem d_Tok_scan_123 : decode prog_11_method_2_code 123 = .ok (.aload_n 0, 1) := by decide +kernel
theorem d_Tok_scan_124 : decode prog_11_method_2_code 124 = .ok (.bipush 63, 2) := by decide +kernel
theorem d_Tok_scan_126 : decode prog_11_method_2_code 126 = .ok (.iload_n 2, 1) := by decide +kernel
theorem d_Tok_scan_127 : decode prog_11_method_2_code 127 = .ok (.lconst 0, 1) := by decide +kernel
theorem d_Tok_scan_128 : decode prog_11_method_2_code 128 = .ok (.invokevirtual 48, 3) := by decide +kernel
theorem d_Tok_scan_131 : decode prog_11_method_2_code 131 = .ok (.goto 18, 3) := by decide +kernel
theorem d_Tok_scan_134 : decode prog_11_method_2_code 134 = .ok (.iload 4, 2) := by decide +kernel
theorem d_Tok_scan_136 : decode prog_11_method_2_code 136 = .ok (.bipush 32, 2) := by decide +kernel
theorem d_Tok_scan_138 : decode prog_11_method_2_code 138 = .ok (.if_icmp .eq 11, 3) := by decide +kernel
theorem d_Tok_scan_141 : decode prog_11_method_2_code 141 = .ok (.aload_n 0, 1) := by decide +kernel
theorem d_Tok_scan_142 : decode prog_11_method_2_code 142 = .ok (.iload 4, 2) := by decide +kernel
theorem d_Tok_scan_144 : decode prog_11_method_2_code 144 = .ok (.iload_n 2, 1) := by decide +kernel
theorem d_Tok_scan_145 : decode prog_11_method_2_code 145 = .ok (.lconst 0, 1) := by decide +kernel
theorem d_Tok_scan_146 : decode prog_11_method_2_code 146 = .ok (.invokevirtual 48, 3) := by decide +kernel
theorem d_Tok_scan_149 : decode prog_11_method_2_code 149 = .ok (.iinc 2 1, 3) := by decide +kernel
theorem d_Tok_scan_152 : decode prog_11_method_2_code 152 = .ok (.goto (-145), 3) := by decide +kernel
theorem d_Tok_scan_155 : decode prog_11_method_2_code 155 = .ok (.aload_n 0, 1) := by decide +kernel
theorem d_Tok_scan_156 : decode prog_11_method_2_code 156 = .ok (.bipush 32, 2) := by decide +kernel
theorem d_Tok_scan_158 : decode prog_11_method_2_code 158 = .ok (.aload_n 1, 1) := by decide +kernel
theorem d_Tok_scan_159 : decode prog_11_method_2_code 159 = .ok (.invokevirtual 27, 3) := by decide +kernel
theorem d_Tok_scan_162 : decode prog_11_method_2_code 162 = .ok (.lconst 0, 1) := by decide +kernel
theorem d_Tok_scan_163 : decode prog_11_method_2_code 163 = .ok (.invokevirtual 48, 3) := by decide +kernel
theorem d_Tok_scan_166 : decode prog_11_method_2_code 166 = .ok (.return_, 1) := by decide +kernel
theorem d_Cod_clear_r_0 : decode prog_4_method_2_code 0 = .ok (.aload_n 0, 1) := by decide +kernel
theorem d_Cod_clear_r_1 : decode prog_4_method_2_code 1 = .ok (.iconst 0, 1) := by decide +kernel
theorem d_Cod_clear_r_2 : decode prog_4_method_2_code 2 = .ok (.putfield 21, 3) := by decide +kernel
theorem d_Cod_clear_r_5 : decode prog_4_method_2_code 5 = .ok (.aload_n 0, 1) := by decide +kernel
theorem d_Cod_clear_r_6 : decode prog_4_method_2_code 6 = .ok (.iconst 0, 1) := by decide +kernel
theorem d_Cod_clear_r_7 : decode prog_4_method_2_code 7 = .ok (.putfield 25, 3) := by decide +kernel
theorem d_Cod_clear_r_10 : decode prog_4_method_2_code 10 = .ok (.return_, 1) := by decide +kernel
theorem d_Rd_startPart_0 : decode prog_3_method_7_code 0 = .ok (.aload_n 0, 1) := by decide +kernel
theorem d_Rd_startPart_1 : decode prog_3_method_7_code 1 = .ok (.iconst 0, 1) := by decide +kernel
theorem d_Rd_startPart_2 : decode prog_3_method_7_code 2 = .ok (.putfield 65, 3) := by decide +kernel
theorem d_Rd_startPart_5 : decode prog_3_method_7_code 5 = .ok (.aload_n 0, 1) := by decide +kernel
theorem d_Rd_startPart_6 : decode prog_3_method_7_code 6 = .ok (.iconst 0, 1) := by decide +kernel
theorem d_Rd_startPart_7 : decode prog_3_method_7_code 7 = .ok (.putfield 99, 3) := by decide +kernel
theorem d_Rd_startPart_10 : decode prog_3_method_7_code 10 = .ok (.aload_n 0, 1) := by decide +kernel
theorem d_Rd_startPart_11 : decode prog_3_method_7_code 11 = .ok (.iconst 0, 1) := by decide +kernel
theorem d_Rd_startPart_12 : decode prog_3_method_7_code 12 = .ok (.putfield 102, 3) := by decide +kernel
theorem d_Rd_startPart_15 : decode prog_3_method_7_code 15 = .ok (.return_, 1) := by decide +kernel
theorem d_Rd_start_0 : decode prog_3_method_5_code 0 = .ok (.aload_n 0, 1) := by decide +kernel
theorem d_Rd_start_1 : decode prog_3_method_5_code 1 = .ok (.getfield 12, 3) := by decide +kernel
theorem d_Rd_start_4 : decode prog_3_method_5_code 4 = .ok (.aload_n 1, 1) := by decide +kernel
theorem d_Rd_start_5 : decode prog_3_method_5_code 5 = .ok (.invokevirtual 69, 3) := by decide +kernel
theorem d_Rd_start_8 : decode prog_3_method_5_code 8 = .ok (.aload_n 0, 1) := by decide +kernel
theorem d_Rd_start_9 : decode prog_3_method_5_code 9 = .ok (.getfield 23, 3) := by decide +kernel
theorem d_Rd_start_12 : decode prog_3_method_5_code 12 = .ok (.invokevirtual 72, 3) := by decide +kernel
theorem d_Rd_start_15 : decode prog_3_method_5_code 15 = .ok (.aload_n 0, 1) := by decide +kernel
theorem d_Rd_start_16 : decode prog_3_method_5_code 16 = .ok (.iconst 0, 1) := by decide +kernel
theorem d_Rd_start_17 : decode prog_3_method_5_code 17 = .ok (.putfield 75, 3) := by decide +kernel
theorem d_Rd_start_20 : decode prog_3_method_5_code 20 = .ok (.aload_n 0, 1) := by decide +kernel
theorem d_Rd_start_21 : decode prog_3_method_5_code 21 = .ok (.iconst 0, 1) := by decide +kernel
theorem d_Rd_start_22 : decode prog_3_method_5_code 22 = .ok (.putfield 78, 3) := by decide +kernel
theorem d_Rd_start_25 : decode prog_3_method_5_code 25 = .ok (.aload_n 0, 1) := by decide +kernel
theorem d_Rd_start_26 : decode prog_3_method_5_code 26 = .ok (.iconst 0, 1) := by decide +kernel
theorem d_Rd_start_27 : decode prog_3_method_5_code 27 = .ok (.putfield 47, 3) := by decide +kernel
theorem d_Rd_start_30 : decode prog_3_method_5_code 30 = .ok (.aload_n 0, 1) := by decide +kernel
theorem d_Rd_start_31 : decode prog_3_method_5_code 31 = .ok (.invokevirtual 81, 3) := by decide +kernel
theorem d_Rd_start_34 : decode prog_3_method_5_code 34 = .ok (.return_, 1) := by decide +kernel
theorem d_Tok_kindAt_0 : decode prog_11_method_6_code 0 = .ok (.iload_n 1, 1) := by decide +kernel
theorem d_Tok_kindAt_1 : decode prog_11_method_6_code 1 = .ok (.ifCond .lt 20, 3) := by decide +kernel
theorem d_Tok_kindAt_4 : decode prog_11_method_6_code 4 = .ok (.iload_n 1, 1) := by decide +kernel
theorem d_Tok_kindAt_5 : decode prog_11_method_6_code 5 = .ok (.aload_n 0, 1) := by decide +kernel
theorem d_Tok_kindAt_6 : decode prog_11_method_6_code 6 = .ok (.getfield 23, 3) := by decide +kernel
theorem d_Tok_kindAt_9 : decode prog_11_method_6_code 9 = .ok (.if_icmp .ge 12, 3) := by decide +kernel
theorem d_Tok_kindAt_12 : decode prog_11_method_6_code 12 = .ok (.aload_n 0, 1) := by decide +kernel
theorem d_Tok_kindAt_13 : decode prog_11_method_6_code 13 = .ok (.getfield 9, 3) := by decide +kernel
theorem d_Tok_kindAt_16 : decode prog_11_method_6_code 16 = .ok (.iload_n 1, 1) := by decide +kernel
theorem d_Tok_kindAt_17 : decode prog_11_method_6_code 17 = .ok (.caload, 1) := by decide +kernel
theorem d_Tok_kindAt_18 : decode prog_11_method_6_code 18 = .ok (.goto 5, 3) := by decide +kernel
theorem d_Tok_kindAt_21 : decode prog_11_method_6_code 21 = .ok (.bipush 32, 2) := by decide +kernel
theorem d_Tok_kindAt_23 : decode prog_11_method_6_code 23 = .ok (.ireturn, 1) := by decide +kernel
theorem d_Rd_isAt_0 : decode prog_3_method_16_code 0 = .ok (.aload_n 0, 1) := by decide +kernel
theorem d_Rd_isAt_1 : decode prog_3_method_16_code 1 = .ok (.getfield 12, 3) := by decide +kernel
theorem d_Rd_isAt_4 : decode prog_3_method_16_code 4 = .ok (.aload_n 0, 1) := by decide +kernel
theorem d_Rd_isAt_5 : decode prog_3_method_16_code 5 = .ok (.getfield 75, 3) := by decide +kernel
theorem d_Rd_isAt_8 : decode prog_3_method_16_code 8 = .ok (.invokevirtual 151, 3) := by decide +kernel
theorem d_Rd_isAt_11 : decode prog_3_method_16_code 11 = .ok (.iload_n 1, 1) := by decide +kernel
theorem d_Rd_isAt_12 : decode prog_3_method_16_code 12 = .ok (.if_icmp .ne 7, 3) := by decide +kernel
theorem d_Rd_isAt_15 : decode prog_3_method_16_code 15 = .ok (.iconst 1, 1) := by decide +kernel
theorem d_Rd_isAt_16 : decode prog_3_method_16_code 16 = .ok (.goto 4, 3) := by decide +kernel
theorem d_Rd_isAt_19 : decode prog_3_method_16_code 19 = .ok (.iconst 0, 1) := by decide +kernel
theorem d_Rd_isAt_20 : decode prog_3_method_16_code 20 = .ok (.ireturn, 1) := by decide +kernel
theorem d_Tok_wordAt_0 : decode prog_11_method_8_code 0 = .ok (.iload_n 1, 1) := by decide +kernel
theorem d_Tok_wordAt_1 : decode prog_11_method_8_code 1 = .ok (.ifCond .lt 20, 3) := by decide +kernel
theorem d_Tok_wordAt_4 : decode prog_11_method_8_code 4 = .ok (.iload_n 1, 1) := by decide +kernel
theorem d_Tok_wordAt_5 : decode prog_11_method_8_code 5 = .ok (.aload_n 0, 1) := by decide +kernel
theorem d_Tok_wordAt_6 : decode prog_11_method_8_code 6 = .ok (.getfield 23, 3) := by decide +kernel
theorem d_Tok_wordAt_9 : decode prog_11_method_8_code 9 = .ok (.if_icmp .ge 12, 3) := by decide +kernel
theorem d_Tok_wordAt_12 : decode prog_11_method_8_code 12 = .ok (.aload_n 0, 1) := by decide +kernel
theorem d_Tok_wordAt_13 : decode prog_11_method_8_code 13 = .ok (.getfield 19, 3) := by decide +kernel
theorem d_Tok_wordAt_16 : decode prog_11_method_8_code 16 = .ok (.iload_n 1, 1) := by decide +kernel
theorem d_Tok_wordAt_17 : decode prog_11_method_8_code 17 = .ok (.laload, 1) := by decide +kernel
theorem d_Tok_wordAt_18 : decode prog_11_method_8_code 18 = .ok (.goto 4, 3) := by decide +kernel
theorem d_Tok_wordAt_21 : decode prog_11_method_8_code 21 = .ok (.lconst 0, 1) := by decide +kernel
theorem d_Tok_wordAt_22 : decode prog_11_method_8_code 22 = .ok (.lreturn, 1) := by decide +kernel
theorem d_Rd_variableSymbol_0 : decode prog_3_method_15_code 0 = .ok (.lload_n 1, 1) := by decide +kernel
theorem d_Rd_variableSymbol_1 : decode prog_3_method_15_code 1 = .ok (.ldc2_w 149, 3) := by decide +kernel
theorem d_Rd_variableSymbol_4 : decode prog_3_method_15_code 4 = .ok (.lcmp, 1) := by decide +kernel
theorem d_Rd_variableSymbol_5 : decode prog_3_method_15_code 5 = .ok (.ifCond .ne 43, 3) := by decide +kernel
theorem d_Rd_variableSymbol_8 : decode prog_3_method_15_code 8 = .ok (.aload_n 0, 1) := by decide +kernel
theorem d_Rd_variableSymbol_9 : decode prog_3_method_15_code 9 = .ok (.dup, 1) := by decide +kernel
theorem d_Rd_variableSymbol_10 : decode prog_3_method_15_code 10 = .ok (.getfield 99, 3) := by decide +kernel
theorem d_Rd_variableSymbol_13 : decode prog_3_method_15_code 13 = .ok (.iconst 1, 1) := by decide +kernel
theorem d_Rd_variableSymbol_14 : decode prog_3_method_15_code 14 = .ok (.iadd, 1) := by decide +kernel
theorem d_Rd_variableSymbol_15 : decode prog_3_method_15_code 15 = .ok (.putfield 99, 3) := by decide +kernel
theorem d_Rd_variableSymbol_18 : decode prog_3_method_15_code 18 = .ok (.aload_n 0, 1) := by decide +kernel
theorem d_Rd_variableSymbol_19 : decode prog_3_method_15_code 19 = .ok (.dup, 1) := by decide +kernel
theorem d_Rd_variableSymbol_20 : decode prog_3_method_15_code 20 = .ok (.getfield 47, 3) := by decide +kernel
theorem d_Rd_variableSymbol_23 : decode prog_3_method_15_code 23 = .ok (.aload_n 0, 1) := by decide +kernel
theorem d_Rd_variableSymbol_24 : decode prog_3_method_15_code 24 = .ok (.getfield 65, 3) := by decide +kernel
theorem d_Rd_variableSymbol_27 : decode prog_3_method_15_code 27 = .ok (.aload_n 0, 1) := by decide +kernel
theorem d_Rd_variableSymbol_28 : decode prog_3_method_15_code 28 = .ok (.getfield 99, 3) := by decide +kernel
theorem d_Rd_variableSymbol_31 : decode prog_3_method_15_code 31 = .ok (.iadd, 1) := by decide +kernel
theorem d_Rd_variableSymbol_32 : decode prog_3_method_15_code 32 = .ok (.bipush 8, 2) := by decide +kernel
theorem d_Rd_variableSymbol_34 : decode prog_3_method_15_code 34 = .ok (.if_icmp .le 7, 3) := by decide +kernel
theorem d_Rd_variableSymbol_37 : decode prog_3_method_15_code 37 = .ok (.iconst 1, 1) := by decide +kernel
theorem d_Rd_variableSymbol_38 : decode prog_3_method_15_code 38 = .ok (.goto 4, 3) := by decide +kernel
theorem d_Rd_variableSymbol_41 : decode prog_3_method_15_code 41 = .ok (.iconst 0, 1) := by decide +kernel
theorem d_Rd_variableSymbol_42 : decode prog_3_method_15_code 42 = .ok (.ior, 1) := by decide +kernel
theorem d_Rd_variableSymbol_43 : decode prog_3_method_15_code 43 = .ok (.putfield 47, 3) := by decide +kernel
theorem d_Rd_variableSymbol_46 : decode prog_3_method_15_code 46 = .ok (.iconst (-1), 1) := by decide +kernel
theorem d_Rd_variableSymbol_47 : decode prog_3_method_15_code 47 = .ok (.ireturn, 1) := by decide +kernel
theorem d_Rd_variableSymbol_48 : decode prog_3_method_15_code 48 = .ok (.iconst 0, 1) := by decide +kernel
theorem d_Rd_variableSymbol_49 : decode prog_3_method_15_code 49 = .ok (.istore_n 3, 1) := by decide +kernel
theorem d_Rd_variableSymbol_50 : decode prog_3_method_15_code 50 = .ok (.iload_n 3, 1) := by decide +kernel
theorem d_Rd_variableSymbol_51 : decode prog_3_method_15_code 51 = .ok (.aload_n 0, 1) := by decide +kernel
theorem d_Rd_variableSymbol_52 : decode prog_3_method_15_code 52 = .ok (.getfield 65, 3) := by decide +kernel
theorem d_Rd_variableSymbol_55 : decode prog_3_method_15_code 55 = .ok (.if_icmp .ge 20, 3) := by decide +kernel
theorem d_Rd_variableSymbol_58 : decode prog_3_method_15_code 58 = .ok (.aload_n 0, 1) := by decide +kernel
theorem d_Rd_variableSymbol_59 : decode prog_3_method_15_code 59 = .ok (.getfield 27, 3) := by decide +kernel
theorem d_Rd_variableSymbol_62 : decode prog_3_method_15_code 62 = .ok (.iload_n 3, 1) := by decide +kernel
theorem d_Rd_variableSymbol_63 : decode prog_3_method_15_code 63 = .ok (.laload, 1) := by decide +kernel
theorem d_Rd_variableSymbol_64 : decode prog_3_method_15_code 64 = .ok (.lload_n 1, 1) := by decide +kernel
theorem d_Rd_variableSymbol_65 : decode prog_3_method_15_code 65 = .ok (.lcmp, 1) := by decide +kernel
theorem d_Rd_variableSymbol_66 : decode prog_3_method_15_code 66 = .ok (.ifCond .eq 9, 3) := by decide +kernel
theorem d_Rd_variableSymbol_69 : decode prog_3_method_15_code 69 = .ok (.iinc 3 1, 3) := by decide +kernel
theorem d_Rd_variableSymbol_72 : decode prog_3_method_15_code 72 = .ok (.goto (-22), 3) := by decide +kernel
theorem d_Rd_variableSymbol_75 : decode prog_3_method_15_code 75 = .ok (.iload_n 3, 1) := by decide +kernel
theorem d_Rd_variableSymbol_76 : decode prog_3_method_15_code 76 = .ok (.aload_n 0, 1) := by decide +kernel
theorem d_Rd_variableSymbol_77 : decode prog_3_method_15_code 77 = .ok (.getfield 65, 3) := by decide +kernel
theorem d_Rd_variableSymbol_80 : decode prog_3_method_15_code 80 = .ok (.if_icmp .ne 53, 3) := by decide +kernel
theorem d_Rd_variableSymbol_83 : decode prog_3_method_15_code 83 = .ok (.aload_n 0, 1) := by decide +kernel
theorem d_Rd_variableSymbol_84 : decode prog_3_method_15_code 84 = .ok (.dup, 1) := by decide +kernel
theorem d_Rd_variableSymbol_85 : decode prog_3_method_15_code 85 = .ok (.getfield 47, 3) := by decide +kernel
theorem d_Rd_variableSymbol_88 : decode prog_3_method_15_code 88 = .ok (.iload_n 3, 1) := by decide +kernel
theorem d_Rd_variableSymbol_89 : decode prog_3_method_15_code 89 = .ok (.iconst 1, 1) := by decide +kernel
theorem d_Rd_variableSymbol_90 : decode prog_3_method_15_code 90 = .ok (.iadd, 1) := by decide +kernel
theorem d_Rd_variableSymbol_91 : decode prog_3_method_15_code 91 = .ok (.aload_n 0, 1) := by decide +kernel
theorem d_Rd_variableSymbol_92 : decode prog_3_method_15_code 92 = .ok (.getfield 99, 3) := by decide +kernel
theorem d_Rd_variableSymbol_95 : decode prog_3_method_15_code 95 = .ok (.iadd, 1) := by decide +kernel
theorem d_Rd_variableSymbol_96 : decode prog_3_method_15_code 96 = .ok (.bipush 8, 2) := by decide +kernel
theorem d_Rd_variableSymbol_98 : decode prog_3_method_15_code 98 = .ok (.if_icmp .le 7, 3) := by decide +kernel
theorem d_Rd_variableSymbol_101 : decode prog_3_method_15_code 101 = .ok (.iconst 1, 1) := by decide +kernel
theorem d_Rd_variableSymbol_102 : decode prog_3_method_15_code 102 = .ok (.goto 4, 3) := by decide +kernel
theorem d_Rd_variableSymbol_105 : decode prog_3_method_15_code 105 = .ok (.iconst 0, 1) := by decide +kernel
theorem d_Rd_variableSymbol_106 : decode prog_3_method_15_code 106 = .ok (.ior, 1) := by decide +kernel
theorem d_Rd_variableSymbol_107 : decode prog_3_method_15_code 107 = .ok (.putfield 47, 3) := by decide +kernel
theorem d_Rd_variableSymbol_110 : decode prog_3_method_15_code 110 = .ok (.iload_n 3, 1) := by decide +kernel
theorem d_Rd_variableSymbol_111 : decode prog_3_method_15_code 111 = .ok (.bipush 8, 2) := by decide +kernel
theorem d_Rd_variableSymbol_113 : decode prog_3_method_15_code 113 = .ok (.if_icmp .ge 20, 3) := by decide +kernel
theorem d_Rd_variableSymbol_116 : decode prog_3_method_15_code 116 = .ok (.aload_n 0, 1) := by decide +kernel
theorem d_Rd_variableSymbol_117 : decode prog_3_method_15_code 117 = .ok (.getfield 27, 3) := by decide +kernel
theorem d_Rd_variableSymbol_120 : decode prog_3_method_15_code 120 = .ok (.iload_n 3, 1) := by decide +kernel
theorem d_Rd_variableSymbol_121 : decode prog_3_method_15_code 121 = .ok (.lload_n 1, 1) := by decide +kernel
theorem d_Rd_variableSymbol_122 : decode prog_3_method_15_code 122 = .ok (.lastore, 1) := by decide +kernel
theorem d_Rd_variableSymbol_123 : decode prog_3_method_15_code 123 = .ok (.aload_n 0, 1) := by decide +kernel
theorem d_Rd_variableSymbol_124 : decode prog_3_method_15_code 124 = .ok (.dup, 1) := by decide +kernel
theorem d_Rd_variableSymbol_125 : decode prog_3_method_15_code 125 = .ok (.getfield 65, 3) := by decide +kernel
theorem d_Rd_variableSymbol_128 : decode prog_3_method_15_code 128 = .ok (.iconst 1, 1) := by decide +kernel
theorem d_Rd_variableSymbol_129 : decode prog_3_method_15_code 129 = .ok (.iadd, 1) := by decide +kernel
theorem d_Rd_variableSymbol_130 : decode prog_3_method_15_code 130 = .ok (.putfield 65, 3) := by decide +kernel
theorem d_Rd_variableSymbol_133 : decode prog_3_method_15_code 133 = .ok (.bipush (-2), 2) := by decide +kernel
theorem d_Rd_variableSymbol_135 : decode prog_3_method_15_code 135 = .ok (.iload_n 3, 1) := by decide +kernel
theorem d_Rd_variableSymbol_136 : decode prog_3_method_15_code 136 = .ok (.isub, 1) := by decide +kernel
theorem d_Rd_variableSymbol_137 : decode prog_3_method_15_code 137 = .ok (.ireturn, 1) := by decide +kernel
theorem d_Cod_add_r_0 : decode prog_4_method_3_code 0 = .ok (.aload_n 0, 1) := by decide +kernel
theorem d_Cod_add_r_1 : decode prog_4_method_3_code 1 = .ok (.getfield 21, 3) := by decide +kernel
theorem d_Cod_add_r_4 : decode prog_4_method_3_code 4 = .ok (.aload_n 0, 1) := by decide +kernel
theorem d_Cod_add_r_5 : decode prog_4_method_3_code 5 = .ok (.getfield 9, 3) := by decide +kernel
theorem d_Cod_add_r_8 : decode prog_4_method_3_code 8 = .ok (.arraylength, 1) := by decide +kernel
theorem d_Cod_add_r_9 : decode prog_4_method_3_code 9 = .ok (.if_icmp .ge 23, 3) := by decide +kernel
theorem d_Cod_add_r_12 : decode prog_4_method_3_code 12 = .ok (.aload_n 0, 1) := by decide +kernel
theorem d_Cod_add_r_13 : decode prog_4_method_3_code 13 = .ok (.getfield 9, 3) := by decide +kernel
theorem d_Cod_add_r_16 : decode prog_4_method_3_code 16 = .ok (.aload_n 0, 1) := by decide +kernel
theorem d_Cod_add_r_17 : decode prog_4_method_3_code 17 = .ok (.getfield 21, 3) := by decide +kernel
theorem d_Cod_add_r_20 : decode prog_4_method_3_code 20 = .ok (.iload_n 1, 1) := by decide +kernel
theorem d_Cod_add_r_21 : decode prog_4_method_3_code 21 = .ok (.iastore, 1) := by decide +kernel
theorem d_Cod_add_r_22 : decode prog_4_method_3_code 22 = .ok (.aload_n 0, 1) := by decide +kernel
theorem d_Cod_add_r_23 : decode prog_4_method_3_code 23 = .ok (.dup, 1) := by decide +kernel
theorem d_Cod_add_r_24 : decode prog_4_method_3_code 24 = .ok (.getfield 21, 3) := by decide +kernel
theorem d_Cod_add_r_27 : decode prog_4_method_3_code 27 = .ok (.iconst 1, 1) := by decide +kernel
theorem d_Cod_add_r_28 : decode prog_4_method_3_code 28 = .ok (.iadd, 1) := by decide +kernel
theorem d_Cod_add_r_29 : decode prog_4_method_3_code 29 = .ok (.putfield 21, 3) := by decide +kernel
theorem d_Cod_add_r_32 : decode prog_4_method_3_code 32 = .ok (.aload_n 0, 1) := by decide +kernel
theorem d_Cod_add_r_33 : decode prog_4_method_3_code 33 = .ok (.getfield 21, 3) := by decide +kernel
theorem d_Cod_add_r_36 : decode prog_4_method_3_code 36 = .ok (.iconst 1, 1) := by decide +kernel
theorem d_Cod_add_r_37 : decode prog_4_method_3_code 37 = .ok (.isub, 1) := by decide +kernel
theorem d_Cod_add_r_38 : decode prog_4_method_3_code 38 = .ok (.ireturn, 1) := by decide +kernel
theorem d_Nam_symbolOf_0 : decode prog_6_method_2_code 0 = .ok (.iconst 0, 1) := by decide +kernel
theorem d_Nam_symbolOf_1 : decode prog_6_method_2_code 1 = .ok (.istore_n 3, 1) := by decide +kernel
theorem d_Nam_symbolOf_2 : decode prog_6_method_2_code 2 = .ok (.iload_n 3, 1) := by decide +kernel
theorem d_Nam_symbolOf_3 : decode prog_6_method_2_code 3 = .ok (.aload_n 0, 1) := by decide +kernel
theorem d_Nam_symbolOf_4 : decode prog_6_method_2_code 4 = .ok (.getfield 15, 3) := by decide +kernel
theorem d_Nam_symbolOf_7 : decode prog_6_method_2_code 7 = .ok (.if_icmp .ge 20, 3) := by decide +kernel
theorem d_Nam_symbolOf_10 : decode prog_6_method_2_code 10 = .ok (.aload_n 0, 1) := by decide +kernel
theorem d_Nam_symbolOf_11 : decode prog_6_method_2_code 11 = .ok (.getfield 9, 3) := by decide +kernel
theorem d_Nam_symbolOf_14 : decode prog_6_method_2_code 14 = .ok (.iload_n 3, 1) := by decide +kernel
theorem d_Nam_symbolOf_15 : decode prog_6_method_2_code 15 = .ok (.laload, 1) := by decide +kernel
theorem d_Nam_symbolOf_16 : decode prog_6_method_2_code 16 = .ok (.lload_n 1, 1) := by decide +kernel
theorem d_Nam_symbolOf_17 : decode prog_6_method_2_code 17 = .ok (.lcmp, 1) := by decide +kernel
theorem d_Nam_symbolOf_18 : decode prog_6_method_2_code 18 = .ok (.ifCond .eq 9, 3) := by decide +kernel
theorem d_Nam_symbolOf_21 : decode prog_6_method_2_code 21 = .ok (.iinc 3 1, 3) := by decide +kernel
theorem d_Nam_symbolOf_24 : decode prog_6_method_2_code 24 = .ok (.goto (-22), 3) := by decide +kernel
theorem d_Nam_symbolOf_27 : decode prog_6_method_2_code 27 = .ok (.iload_n 3, 1) := by decide +kernel
theorem d_Nam_symbolOf_28 : decode prog_6_method_2_code 28 = .ok (.bipush 32, 2) := by decide +kernel
theorem d_Nam_symbolOf_30 : decode prog_6_method_2_code 30 = .ok (.if_icmp .ne 13, 3) := by decide +kernel
theorem d_Nam_symbolOf_33 : decode prog_6_method_2_code 33 = .ok (.aload_n 0, 1) := by decide +kernel
theorem d_Nam_symbolOf_34 : decode prog_6_method_2_code 34 = .ok (.iconst 1, 1) := by decide +kernel
theorem d_Nam_symbolOf_35 : decode prog_6_method_2_code 35 = .ok (.putfield 19, 3) := by decide +kernel
theorem d_Nam_symbolOf_38 : decode prog_6_method_2_code 38 = .ok (.iconst 0, 1) := by decide +kernel
theorem d_Nam_symbolOf_39 : decode prog_6_method_2_code 39 = .ok (.istore_n 3, 1) := by decide +kernel
theorem d_Nam_symbolOf_40 : decode prog_6_method_2_code 40 = .ok (.goto 28, 3) := by decide +kernel
theorem d_Nam_symbolOf_43 : decode prog_6_method_2_code 43 = .ok (.iload_n 3, 1) := by decide +kernel
theorem d_Nam_symbolOf_44 : decode prog_6_method_2_code 44 = .ok (.aload_n 0, 1) := by decide +kernel
theorem d_Nam_symbolOf_45 : decode prog_6_method_2_code 45 = .ok (.getfield 15, 3) := by decide +kernel
theorem d_Nam_symbolOf_48 : decode prog_6_method_2_code 48 = .ok (.if_icmp .ne 20, 3) := by decide +kernel
theorem d_Nam_symbolOf_51 : decode prog_6_method_2_code 51 = .ok (.aload_n 0, 1) := by decide +kernel
theorem d_Nam_symbolOf_52 : decode prog_6_method_2_code 52 = .ok (.getfield 9, 3) := by decide +kernel
theorem d_Nam_symbolOf_55 : decode prog_6_method_2_code 55 = .ok (.iload_n 3, 1) := by decide +kernel
theorem d_Nam_symbolOf_56 : decode prog_6_method_2_code 56 = .ok (.lload_n 1, 1) := by decide +kernel
theorem d_Nam_symbolOf_57 : decode prog_6_method_2_code 57 = .ok (.lastore, 1) := by decide +kernel
theorem d_Nam_symbolOf_58 : decode prog_6_method_2_code 58 = .ok (.aload_n 0, 1) := by decide +kernel
theorem d_Nam_symbolOf_59 : decode prog_6_method_2_code 59 = .ok (.dup, 1) := by decide +kernel
theorem d_Nam_symbolOf_60 : decode prog_6_method_2_code 60 = .ok (.getfield 15, 3) := by decide +kernel
theorem d_Nam_symbolOf_63 : decode prog_6_method_2_code 63 = .ok (.iconst 1, 1) := by decide +kernel
theorem d_Nam_symbolOf_64 : decode prog_6_method_2_code 64 = .ok (.iadd, 1) := by decide +kernel
theorem d_Nam_symbolOf_65 : decode prog_6_method_2_code 65 = .ok (.putfield 15, 3) := by decide +kernel
theorem d_Nam_symbolOf_68 : decode prog_6_method_2_code 68 = .ok (.iconst 3, 1) := by decide +kernel
theorem d_Nam_symbolOf_69 : decode prog_6_method_2_code 69 = .ok (.iload_n 3, 1) := by decide +kernel
theorem d_Nam_symbolOf_70 : decode prog_6_method_2_code 70 = .ok (.iadd, 1) := by decide +kernel
theorem d_Nam_symbolOf_71 : decode prog_6_method_2_code 71 = .ok (.bipush 8, 2) := by decide +kernel
theorem d_Nam_symbolOf_73 : decode prog_6_method_2_code 73 = .ok (.imul, 1) := by decide +kernel
theorem d_Nam_symbolOf_74 : decode prog_6_method_2_code 74 = .ok (.ireturn, 1) := by decide +kernel
theorem d_Rd_enter_0 : decode prog_3_method_14_code 0 = .ok (.aload_n 0, 1) := by decide +kernel
theorem d_Rd_enter_1 : decode prog_3_method_14_code 1 = .ok (.getfield 78, 3) := by decide +kernel
theorem d_Rd_enter_4 : decode prog_3_method_14_code 4 = .ok (.bipush 15, 2) := by decide +kernel
theorem d_Rd_enter_6 : decode prog_3_method_14_code 6 = .ok (.if_icmp .lt 5, 3) := by decide +kernel
theorem d_Rd_enter_9 : decode prog_3_method_14_code 9 = .ok (.iconst 0, 1) := by decide +kernel
theorem d_Rd_enter_10 : decode prog_3_method_14_code 10 = .ok (.ireturn, 1) := by decide +kernel
theorem d_Rd_enter_11 : decode prog_3_method_14_code 11 = .ok (.aload_n 0, 1) := by decide +kernel
theorem d_Rd_enter_12 : decode prog_3_method_14_code 12 = .ok (.dup, 1) := by decide +kernel
theorem d_Rd_enter_13 : decode prog_3_method_14_code 13 = .ok (.getfield 78, 3) := by decide +kernel
theorem d_Rd_enter_16 : decode prog_3_method_14_code 16 = .ok (.iconst 1, 1) := by decide +kernel
theorem d_Rd_enter_17 : decode prog_3_method_14_code 17 = .ok (.iadd, 1) := by decide +kernel
theorem d_Rd_enter_18 : decode prog_3_method_14_code 18 = .ok (.putfield 78, 3) := by decide +kernel
theorem d_Rd_enter_21 : decode prog_3_method_14_code 21 = .ok (.aload_n 0, 1) := by decide +kernel
theorem d_Rd_enter_22 : decode prog_3_method_14_code 22 = .ok (.dup, 1) := by decide +kernel
theorem d_Rd_enter_23 : decode prog_3_method_14_code 23 = .ok (.getfield 75, 3) := by decide +kernel
theorem d_Rd_enter_26 : decode prog_3_method_14_code 26 = .ok (.iconst 1, 1) := by decide +kernel
theorem d_Rd_enter_27 : decode prog_3_method_14_code 27 = .ok (.iadd, 1) := by decide +kernel
theorem d_Rd_enter_28 : decode prog_3_method_14_code 28 = .ok (.putfield 75, 3) := by decide +kernel
theorem d_Rd_enter_31 : decode prog_3_method_14_code 31 = .ok (.iconst 1, 1) := by decide +kernel
theorem d_Rd_enter_32 : decode prog_3_method_14_code 32 = .ok (.ireturn, 1) := by decide +kernel
theorem d_Rd_accept_0 : decode prog_3_method_17_code 0 = .ok (.aload_n 0, 1) := by decide +kernel
theorem d_Rd_accept_1 : decode prog_3_method_17_code 1 = .ok (.getfield 12, 3) := by decide +kernel
theorem d_Rd_accept_4 : decode prog_3_method_17_code 4 = .ok (.aload_n 0, 1) := by decide +kernel
theorem d_Rd_accept_5 : decode prog_3_method_17_code 5 = .ok (.getfield 75, 3) := by decide +kernel
theorem d_Rd_accept_8 : decode prog_3_method_17_code 8 = .ok (.invokevirtual 151, 3) := by decide +kernel
theorem d_Rd_accept_11 : decode prog_3_method_17_code 11 = .ok (.iload_n 1, 1) := by decide +kernel
theorem d_Rd_accept_12 : decode prog_3_method_17_code 12 = .ok (.if_icmp .eq 5, 3) := by decide +kernel
theorem d_Rd_accept_15 : decode prog_3_method_17_code 15 = .ok (.iconst 0, 1) := by decide +kernel
theorem d_Rd_accept_16 : decode prog_3_method_17_code 16 = .ok (.ireturn, 1) := by decide +kernel
theorem d_Rd_accept_17 : decode prog_3_method_17_code 17 = .ok (.aload_n 0, 1) := by decide +kernel
theorem d_Rd_accept_18 : decode prog_3_method_17_code 18 = .ok (.dup, 1) := by decide +kernel
theorem d_Rd_accept_19 : decode prog_3_method_17_code 19 = .ok (.getfield 75, 3) := by decide +kernel
theorem d_Rd_accept_22 : decode prog_3_method_17_code 22 = .ok (.iconst 1, 1) := by decide +kernel
theorem d_Rd_accept_23 : decode prog_3_method_17_code 23 = .ok (.iadd, 1) := by decide +kernel
theorem d_Rd_accept_24 : decode prog_3_method_17_code 24 = .ok (.putfield 75, 3) := by decide +kernel
theorem d_Rd_accept_27 : decode prog_3_method_17_code 27 = .ok (.iconst 1, 1) := by decide +kernel
theorem d_Rd_accept_28 : decode prog_3_method_17_code 28 = .ok (.ireturn, 1) := by decide +kernel
theorem d_Cod_setArguments_r_0 : decode prog_4_method_4_code 0 = .ok (.iload_n 1, 1) := by decide +kernel
theorem d_Cod_setArguments_r_1 : decode prog_4_method_4_code 1 = .ok (.ifCond .lt 21, 3) := by decide +kernel
theorem d_Cod_setArguments_r_4 : decode prog_4_method_4_code 4 = .ok (.iload_n 1, 1) := by decide +kernel
theorem d_Cod_setArguments_r_5 : decode prog_4_method_4_code 5 = .ok (.aload_n 0, 1) := by decide +kernel
theorem d_Cod_setArguments_r_6 : decode prog_4_method_4_code 6 = .ok (.getfield 21, 3) := by decide +kernel
theorem d_Cod_setArguments_r_9 : decode prog_4_method_4_code 9 = .ok (.if_icmp .ge 13, 3) := by decide +kernel
theorem d_Cod_setArguments_r_12 : decode prog_4_method_4_code 12 = .ok (.aload_n 0, 1) := by decide +kernel
theorem d_Cod_setArguments_r_13 : decode prog_4_method_4_code 13 = .ok (.getfield 9, 3) := by decide +kernel
theorem d_Cod_setArguments_r_16 : decode prog_4_method_4_code 16 = .ok (.iload_n 1, 1) := by decide +kernel
theorem d_Cod_setArguments_r_17 : decode prog_4_method_4_code 17 = .ok (.dup2, 1) := by decide +kernel
theorem d_Cod_setArguments_r_18 : decode prog_4_method_4_code 18 = .ok (.iaload, 1) := by decide +kernel
theorem d_Cod_setArguments_r_19 : decode prog_4_method_4_code 19 = .ok (.iload_n 2, 1) := by decide +kernel
theorem d_Cod_setArguments_r_20 : decode prog_4_method_4_code 20 = .ok (.iadd, 1) := by decide +kernel
theorem d_Cod_setArguments_r_21 : decode prog_4_method_4_code 21 = .ok (.iastore, 1) := by decide +kernel
theorem d_Cod_setArguments_r_22 : decode prog_4_method_4_code 22 = .ok (.return_, 1) := by decide +kernel
theorem d_Rd_readArguments_0 : decode prog_3_method_12_code 0 = .ok (.aload_n 0, 1) := by decide +kernel
theorem d_Rd_readArguments_1 : decode prog_3_method_12_code 1 = .ok (.invokevirtual 137, 3) := by decide +kernel
theorem d_Rd_readArguments_4 : decode prog_3_method_12_code 4 = .ok (.ifCond .ne 5, 3) := by decide +kernel
theorem d_Rd_readArguments_7 : decode prog_3_method_12_code 7 = .ok (.iconst 0, 1) := by decide +kernel
theorem d_Rd_readArguments_8 : decode prog_3_method_12_code 8 = .ok (.ireturn, 1) := by decide +kernel
theorem d_Rd_readArguments_9 : decode prog_3_method_12_code 9 = .ok (.iconst 0, 1) := by decide +kernel
theorem d_Rd_readArguments_10 : decode prog_3_method_12_code 10 = .ok (.istore_n 2, 1) := by decide +kernel
theorem d_Rd_readArguments_11 : decode prog_3_method_12_code 11 = .ok (.iconst 1, 1) := by decide +kernel
theorem d_Rd_readArguments_12 : decode prog_3_method_12_code 12 = .ok (.istore_n 3, 1) := by decide +kernel
theorem d_Rd_readArguments_13 : decode prog_3_method_12_code 13 = .ok (.iconst 0, 1) := by decide +kernel
theorem d_Rd_readArguments_14 : decode prog_3_method_12_code 14 = .ok (.istore 4, 2) := by decide +kernel
theorem d_Rd_readArguments_16 : decode prog_3_method_12_code 16 = .ok (.iload 4, 2) := by decide +kernel
theorem d_Rd_readArguments_18 : decode prog_3_method_12_code 18 = .ok (.sipush 240, 3) := by decide +kernel
theorem d_Rd_readArguments_21 : decode prog_3_method_12_code 21 = .ok (.if_icmp .ge 32, 3) := by decide +kernel
theorem d_Rd_readArguments_24 : decode prog_3_method_12_code 24 = .ok (.iload_n 3, 1) := by decide +kernel
theorem d_Rd_readArguments_25 : decode prog_3_method_12_code 25 = .ok (.ifCond .eq 28, 3) := by decide +kernel
theorem d_Rd_readArguments_28 : decode prog_3_method_12_code 28 = .ok (.aload_n 0, 1) := by decide +kernel
theorem d_Rd_readArguments_29 : decode prog_3_method_12_code 29 = .ok (.invokevirtual 113, 3) := by decide +kernel
theorem d_Rd_readArguments_32 : decode prog_3_method_12_code 32 = .ok (.ifCond .ne 5, 3) := by decide +kernel
theorem d_Rd_readArguments_35 : decode prog_3_method_12_code 35 = .ok (.iconst 0, 1) := by decide +kernel
theorem d_Rd_readArguments_36 : decode prog_3_method_12_code 36 = .ok (.ireturn, 1) := by decide +kernel
theorem d_Rd_readArguments_37 : decode prog_3_method_12_code 37 = .ok (.iinc 2 1, 3) := by decide +kernel
theorem d_Rd_readArguments_40 : decode prog_3_method_12_code 40 = .ok (.aload_n 0, 1) := by decide +kernel
theorem d_Rd_readArguments_41 : decode prog_3_method_12_code 41 = .ok (.bipush 44, 2) := by decide +kernel
theorem d_Rd_readArguments_43 : decode prog_3_method_12_code 43 = .ok (.invokevirtual 105, 3) := by decide +kernel
theorem d_Rd_readArguments_46 : decode prog_3_method_12_code 46 = .ok (.istore_n 3, 1) := by decide +kernel
theorem d_Rd_readArguments_47 : decode prog_3_method_12_code 47 = .ok (.iinc 4 1, 3) := by decide +kernel
theorem d_Rd_readArguments_50 : decode prog_3_method_12_code 50 = .ok (.goto (-34), 3) := by decide +kernel
theorem d_Rd_readArguments_53 : decode prog_3_method_12_code 53 = .ok (.aload_n 0, 1) := by decide +kernel
theorem d_Rd_readArguments_54 : decode prog_3_method_12_code 54 = .ok (.dup, 1) := by decide +kernel
theorem d_Rd_readArguments_55 : decode prog_3_method_12_code 55 = .ok (.getfield 47, 3) := by decide +kernel
theorem d_Rd_readArguments_58 : decode prog_3_method_12_code 58 = .ok (.iload_n 2, 1) := by decide +kernel
theorem d_Rd_readArguments_59 : decode prog_3_method_12_code 59 = .ok (.iconst 4, 1) := by decide +kernel
theorem d_Rd_readArguments_60 : decode prog_3_method_12_code 60 = .ok (.if_icmp .le 7, 3) := by decide +kernel
theorem d_Rd_readArguments_63 : decode prog_3_method_12_code 63 = .ok (.iconst 1, 1) := by decide +kernel
theorem d_Rd_readArguments_64 : decode prog_3_method_12_code 64 = .ok (.goto 4, 3) := by decide +kernel
theorem d_Rd_readArguments_67 : decode prog_3_method_12_code 67 = .ok (.iconst 0, 1) := by decide +kernel
theorem d_Rd_readArguments_68 : decode prog_3_method_12_code 68 = .ok (.ior, 1) := by decide +kernel
theorem d_Rd_readArguments_69 : decode prog_3_method_12_code 69 = .ok (.putfield 47, 3) := by decide +kernel
theorem d_Rd_readArguments_72 : decode prog_3_method_12_code 72 = .ok (.aload_n 0, 1) := by decide +kernel
theorem d_Rd_readArguments_73 : decode prog_3_method_12_code 73 = .ok (.getfield 23, 3) := by decide +kernel
theorem d_Rd_readArguments_76 : decode prog_3_method_12_code 76 = .ok (.iload_n 1, 1) := by decide +kernel
theorem d_Rd_readArguments_77 : decode prog_3_method_12_code 77 = .ok (.iload_n 2, 1) := by decide +kernel
theorem d_Rd_readArguments_78 : decode prog_3_method_12_code 78 = .ok (.iconst 4, 1) := by decide +kernel
theorem d_Rd_readArguments_79 : decode prog_3_method_12_code 79 = .ok (.invokestatic 140, 3) := by decide +kernel
theorem d_Rd_readArguments_82 : decode prog_3_method_12_code 82 = .ok (.invokevirtual 146, 3) := by decide +kernel
theorem d_Rd_readArguments_85 : decode prog_3_method_12_code 85 = .ok (.aload_n 0, 1) := by decide +kernel
theorem d_Rd_readArguments_86 : decode prog_3_method_12_code 86 = .ok (.dup, 1) := by decide +kernel
theorem d_Rd_readArguments_87 : decode prog_3_method_12_code 87 = .ok (.getfield 78, 3) := by decide +kernel
theorem d_Rd_readArguments_90 : decode prog_3_method_12_code 90 = .ok (.iconst 1, 1) := by decide +kernel
theorem d_Rd_readArguments_91 : decode prog_3_method_12_code 91 = .ok (.isub, 1) := by decide +kernel
theorem d_Rd_readArguments_92 : decode prog_3_method_12_code 92 = .ok (.putfield 78, 3) := by decide +kernel
theorem d_Rd_readArguments_95 : decode prog_3_method_12_code 95 = .ok (.aload_n 0, 1) := by decide +kernel
theorem d_Rd_readArguments_96 : decode prog_3_method_12_code 96 = .ok (.bipush 41, 2) := by decide +kernel
theorem d_Rd_readArguments_98 : decode prog_3_method_12_code 98 = .ok (.invokevirtual 105, 3) := by decide +kernel
theorem d_Rd_readArguments_101 : decode prog_3_method_12_code 101 = .ok (.ireturn, 1) := by decide +kernel
theorem d_Rd_readList_0 : decode prog_3_method_13_code 0 = .ok (.aload_n 0, 1) := by decide +kernel
theorem d_Rd_readList_1 : decode prog_3_method_13_code 1 = .ok (.invokevirtual 137, 3) := by decide +kernel
theorem d_Rd_readList_4 : decode prog_3_method_13_code 4 = .ok (.ifCond .ne 5, 3) := by decide +kernel
theorem d_Rd_readList_7 : decode prog_3_method_13_code 7 = .ok (.iconst 0, 1) := by decide +kernel
theorem d_Rd_readList_8 : decode prog_3_method_13_code 8 = .ok (.ireturn, 1) := by decide +kernel
theorem d_Rd_readList_9 : decode prog_3_method_13_code 9 = .ok (.aload_n 0, 1) := by decide +kernel
theorem d_Rd_readList_10 : decode prog_3_method_13_code 10 = .ok (.bipush 93, 2) := by decide +kernel
theorem d_Rd_readList_12 : decode prog_3_method_13_code 12 = .ok (.invokevirtual 39, 3) := by decide +kernel
theorem d_Rd_readList_15 : decode prog_3_method_13_code 15 = .ok (.ifCond .ne 7, 3) := by decide +kernel
theorem d_Rd_readList_18 : decode prog_3_method_13_code 18 = .ok (.iconst 1, 1) := by decide +kernel
theorem d_Rd_readList_19 : decode prog_3_method_13_code 19 = .ok (.goto 4, 3) := by decide +kernel
theorem d_Rd_readList_22 : decode prog_3_method_13_code 22 = .ok (.iconst 0, 1) := by decide +kernel
theorem d_Rd_readList_23 : decode prog_3_method_13_code 23 = .ok (.istore_n 1, 1) := by decide +kernel
theorem d_Rd_readList_24 : decode prog_3_method_13_code 24 = .ok (.iconst 0, 1) := by decide +kernel
theorem d_Rd_readList_25 : decode prog_3_method_13_code 25 = .ok (.istore_n 2, 1) := by decide +kernel
theorem d_Rd_readList_26 : decode prog_3_method_13_code 26 = .ok (.iload_n 2, 1) := by decide +kernel
theorem d_Rd_readList_27 : decode prog_3_method_13_code 27 = .ok (.sipush 240, 3) := by decide +kernel
theorem d_Rd_readList_30 : decode prog_3_method_13_code 30 = .ok (.if_icmp .ge 39, 3) := by decide +kernel
theorem d_Rd_readList_33 : decode prog_3_method_13_code 33 = .ok (.iload_n 1, 1) := by decide +kernel
theorem d_Rd_readList_34 : decode prog_3_method_13_code 34 = .ok (.ifCond .eq 35, 3) := by decide +kernel
theorem d_Rd_readList_37 : decode prog_3_method_13_code 37 = .ok (.aload_n 0, 1) := by decide +kernel
theorem d_Rd_readList_38 : decode prog_3_method_13_code 38 = .ok (.getfield 23, 3) := by decide +kernel
theorem d_Rd_readList_41 : decode prog_3_method_13_code 41 = .ok (.bipush 10, 2) := by decide +kernel
theorem d_Rd_readList_43 : decode prog_3_method_13_code 43 = .ok (.invokevirtual 116, 3) := by decide +kernel
theorem d_Rd_readList_46 : decode prog_3_method_13_code 46 = .ok (.pop, 1) := by decide +kernel
theorem d_Rd_readList_47 : decode prog_3_method_13_code 47 = .ok (.aload_n 0, 1) := by decide +kernel
theorem d_Rd_readList_48 : decode prog_3_method_13_code 48 = .ok (.invokevirtual 113, 3) := by decide +kernel
theorem d_Rd_readList_51 : decode prog_3_method_13_code 51 = .ok (.ifCond .ne 5, 3) := by decide +kernel
theorem d_Rd_readList_54 : decode prog_3_method_13_code 54 = .ok (.iconst 0, 1) := by decide +kernel
theorem d_Rd_readList_55 : decode prog_3_method_13_code 55 = .ok (.ireturn, 1) := by decide +kernel
theorem d_Rd_readList_56 : decode prog_3_method_13_code 56 = .ok (.aload_n 0, 1) := by decide +kernel
theorem d_Rd_readList_57 : decode prog_3_method_13_code 57 = .ok (.bipush 44, 2) := by decide +kernel
theorem d_Rd_readList_59 : decode prog_3_method_13_code 59 = .ok (.invokevirtual 105, 3) := by decide +kernel
theorem d_Rd_readList_62 : decode prog_3_method_13_code 62 = .ok (.istore_n 1, 1) := by decide +kernel
theorem d_Rd_readList_63 : decode prog_3_method_13_code 63 = .ok (.iinc 2 1, 3) := by decide +kernel
theorem d_Rd_readList_66 : decode prog_3_method_13_code 66 = .ok (.goto (-40), 3) := by decide +kernel
theorem d_Rd_readList_69 : decode prog_3_method_13_code 69 = .ok (.aload_n 0, 1) := by decide +kernel
theorem d_Rd_readList_70 : decode prog_3_method_13_code 70 = .ok (.bipush 124, 2) := by decide +kernel
theorem d_Rd_readList_72 : decode prog_3_method_13_code 72 = .ok (.invokevirtual 105, 3) := by decide +kernel
theorem d_Rd_readList_75 : decode prog_3_method_13_code 75 = .ok (.ifCond .ne 15, 3) := by decide +kernel
theorem d_Rd_readList_78 : decode prog_3_method_13_code 78 = .ok (.aload_n 0, 1) := by decide +kernel
theorem d_Rd_readList_79 : decode prog_3_method_13_code 79 = .ok (.getfield 23, 3) := by decide +kernel
theorem d_Rd_readList_82 : decode prog_3_method_13_code 82 = .ok (.iconst 0, 1) := by decide +kernel
theorem d_Rd_readList_83 : decode prog_3_method_13_code 83 = .ok (.invokevirtual 116, 3) := by decide +kernel
theorem d_Rd_readList_86 : decode prog_3_method_13_code 86 = .ok (.pop, 1) := by decide +kernel
theorem d_Rd_readList_87 : decode prog_3_method_13_code 87 = .ok (.goto 12, 3) := by decide +kernel
theorem d_Rd_readList_90 : decode prog_3_method_13_code 90 = .ok (.aload_n 0, 1) := by decide +kernel
theorem d_Rd_readList_91 : decode prog_3_method_13_code 91 = .ok (.invokevirtual 113, 3) := by decide +kernel
theorem d_Rd_readList_94 : decode prog_3_method_13_code 94 = .ok (.ifCond .ne 5, 3) := by decide +kernel
theorem d_Rd_readList_97 : decode prog_3_method_13_code 97 = .ok (.iconst 0, 1) := by decide +kernel
theorem d_Rd_readList_98 : decode prog_3_method_13_code 98 = .ok (.ireturn, 1) := by decide +kernel
theorem d_Rd_readList_99 : decode prog_3_method_13_code 99 = .ok (.aload_n 0, 1) := by decide +kernel
theorem d_Rd_readList_100 : decode prog_3_method_13_code 100 = .ok (.dup, 1) := by decide +kernel
theorem d_Rd_readList_101 : decode prog_3_method_13_code 101 = .ok (.getfield 78, 3) := by decide +kernel
theorem d_Rd_readList_104 : decode prog_3_method_13_code 104 = .ok (.iconst 1, 1) := by decide +kernel
theorem d_Rd_readList_105 : decode prog_3_method_13_code 105 = .ok (.isub, 1) := by decide +kernel
theorem d_Rd_readList_106 : decode prog_3_method_13_code 106 = .ok (.putfield 78, 3) := by decide +kernel
theorem d_Rd_readList_109 : decode prog_3_method_13_code 109 = .ok (.aload_n 0, 1) := by decide +kernel
theorem d_Rd_readList_110 : decode prog_3_method_13_code 110 = .ok (.bipush 93, 2) := by decide +kernel
theorem d_Rd_readList_112 : decode prog_3_method_13_code 112 = .ok (.invokevirtual 105, 3) := by decide +kernel
theorem d_Rd_readList_115 : decode prog_3_method_13_code 115 = .ok (.ireturn, 1) := by decide +kernel
theorem d_Rd_readTerm_0 : decode prog_3_method_11_code 0 = .ok (.aload_n 0, 1) := by decide +kernel
theorem d_Rd_readTerm_1 : decode prog_3_method_11_code 1 = .ok (.bipush 65, 2) := by decide +kernel
theorem d_Rd_readTerm_3 : decode prog_3_method_11_code 3 = .ok (.invokevirtual 39, 3) := by decide +kernel
theorem d_Rd_readTerm_6 : decode prog_3_method_11_code 6 = .ok (.ifCond .eq 38, 3) := by decide +kernel
theorem d_Rd_readTerm_9 : decode prog_3_method_11_code 9 = .ok (.aload_n 0, 1) := by decide +kernel
theorem d_Rd_readTerm_10 : decode prog_3_method_11_code 10 = .ok (.getfield 23, 3) := by decide +kernel
theorem d_Rd_readTerm_13 : decode prog_3_method_11_code 13 = .ok (.aload_n 0, 1) := by decide +kernel
theorem d_Rd_readTerm_14 : decode prog_3_method_11_code 14 = .ok (.aload_n 0, 1) := by decide +kernel
theorem d_Rd_readTerm_15 : decode prog_3_method_11_code 15 = .ok (.getfield 12, 3) := by decide +kernel
theorem d_Rd_readTerm_18 : decode prog_3_method_11_code 18 = .ok (.aload_n 0, 1) := by decide +kernel
theorem d_Rd_readTerm_19 : decode prog_3_method_11_code 19 = .ok (.getfield 75, 3) := by decide +kernel
theorem d_Rd_readTerm_22 : decode prog_3_method_11_code 22 = .ok (.invokevirtual 119, 3) := by decide +kernel
theorem d_Rd_readTerm_25 : decode prog_3_method_11_code 25 = .ok (.invokevirtual 123, 3) := by decide +kernel
theorem d_Rd_readTerm_28 : decode prog_3_method_11_code 28 = .ok (.invokevirtual 116, 3) := by decide +kernel
theorem d_Rd_readTerm_31 : decode prog_3_method_11_code 31 = .ok (.pop, 1) := by decide +kernel
theorem d_Rd_readTerm_32 : decode prog_3_method_11_code 32 = .ok (.aload_n 0, 1) := by decide +kernel
theorem d_Rd_readTerm_33 : decode prog_3_method_11_code 33 = .ok (.dup, 1) := by decide +kernel
theorem d_Rd_readTerm_34 : decode prog_3_method_11_code 34 = .ok (.getfield 75, 3) := by decide +kernel
theorem d_Rd_readTerm_37 : decode prog_3_method_11_code 37 = .ok (.iconst 1, 1) := by decide +kernel
theorem d_Rd_readTerm_38 : decode prog_3_method_11_code 38 = .ok (.iadd, 1) := by decide +kernel
theorem d_Rd_readTerm_39 : decode prog_3_method_11_code 39 = .ok (.putfield 75, 3) := by decide +kernel
theorem d_Rd_readTerm_42 : decode prog_3_method_11_code 42 = .ok (.iconst 1, 1) := by decide +kernel
theorem d_Rd_readTerm_43 : decode prog_3_method_11_code 43 = .ok (.ireturn, 1) := by decide +kernel
theorem d_Rd_readTerm_44 : decode prog_3_method_11_code 44 = .ok (.aload_n 0, 1) := by decide +kernel
theorem d_Rd_readTerm_45 : decode prog_3_method_11_code 45 = .ok (.bipush 97, 2) := by decide +kernel
theorem d_Rd_readTerm_47 : decode prog_3_method_11_code 47 = .ok (.invokevirtual 39, 3) := by decide +kernel
theorem d_Rd_readTerm_50 : decode prog_3_method_11_code 50 = .ok (.ifCond .eq 62, 3) := by decide +kernel
theorem d_Rd_readTerm_53 : decode prog_3_method_11_code 53 = .ok (.aload_n 0, 1) := by decide +kernel
theorem d_Rd_readTerm_54 : decode prog_3_method_11_code 54 = .ok (.getfield 23, 3) := by decide +kernel
theorem d_Rd_readTerm_57 : decode prog_3_method_11_code 57 = .ok (.aload_n 0, 1) := by decide +kernel
theorem d_Rd_readTerm_58 : decode prog_3_method_11_code 58 = .ok (.getfield 31, 3) := by decide +kernel
theorem d_Rd_readTerm_61 : decode prog_3_method_11_code 61 = .ok (.aload_n 0, 1) := by decide +kernel
theorem d_Rd_readTerm_62 : decode prog_3_method_11_code 62 = .ok (.getfield 12, 3) := by decide +kernel
theorem d_Rd_readTerm_65 : decode prog_3_method_11_code 65 = .ok (.aload_n 0, 1) := by decide +kernel
theorem d_Rd_readTerm_66 : decode prog_3_method_11_code 66 = .ok (.getfield 75, 3) := by decide +kernel
theorem d_Rd_readTerm_69 : decode prog_3_method_11_code 69 = .ok (.invokevirtual 119, 3) := by decide +kernel
theorem d_Rd_readTerm_72 : decode prog_3_method_11_code 72 = .ok (.invokevirtual 127, 3) := by decide +kernel
theorem d_Rd_readTerm_75 : decode prog_3_method_11_code 75 = .ok (.invokevirtual 116, 3) := by decide +kernel
theorem d_Rd_readTerm_78 : decode prog_3_method_11_code 78 = .ok (.istore_n 1, 1) := by decide +kernel
theorem d_Rd_readTerm_79 : decode prog_3_method_11_code 79 = .ok (.aload_n 0, 1) := by decide +kernel
theorem d_Rd_readTerm_80 : decode prog_3_method_11_code 80 = .ok (.dup, 1) := by decide +kernel
theorem d_Rd_readTerm_81 : decode prog_3_method_11_code 81 = .ok (.getfield 75, 3) := by decide +kernel
theorem d_Rd_readTerm_84 : decode prog_3_method_11_code 84 = .ok (.iconst 1, 1) := by decide +kernel
theorem d_Rd_readTerm_85 : decode prog_3_method_11_code 85 = .ok (.iadd, 1) := by decide +kernel
theorem d_Rd_readTerm_86 : decode prog_3_method_11_code 86 = .ok (.putfield 75, 3) := by decide +kernel
theorem d_Rd_readTerm_89 : decode prog_3_method_11_code 89 = .ok (.aload_n 0, 1) := by decide +kernel
theorem d_Rd_readTerm_90 : decode prog_3_method_11_code 90 = .ok (.bipush 40, 2) := by decide +kernel
theorem d_Rd_readTerm_92 : decode prog_3_method_11_code 92 = .ok (.invokevirtual 39, 3) := by decide +kernel
theorem d_Rd_readTerm_95 : decode prog_3_method_11_code 95 = .ok (.ifCond .eq 11, 3) := by decide +kernel
theorem d_Rd_readTerm_98 : decode prog_3_method_11_code 98 = .ok (.aload_n 0, 1) := by decide +kernel
theorem d_Rd_readTerm_99 : decode prog_3_method_11_code 99 = .ok (.iload_n 1, 1) := by decide +kernel
theorem d_Rd_readTerm_100 : decode prog_3_method_11_code 100 = .ok (.invokevirtual 130, 3) := by decide +kernel
theorem d_Rd_readTerm_103 : decode prog_3_method_11_code 103 = .ok (.ifCond .eq 7, 3) := by decide +kernel
theorem d_Rd_readTerm_106 : decode prog_3_method_11_code 106 = .ok (.iconst 1, 1) := by decide +kernel
theorem d_Rd_readTerm_107 : decode prog_3_method_11_code 107 = .ok (.goto 4, 3) := by decide +kernel
theorem d_Rd_readTerm_110 : decode prog_3_method_11_code 110 = .ok (.iconst 0, 1) := by decide +kernel
theorem d_Rd_readTerm_111 : decode prog_3_method_11_code 111 = .ok (.ireturn, 1) := by decide +kernel
theorem d_Rd_readTerm_112 : decode prog_3_method_11_code 112 = .ok (.aload_n 0, 1) := by decide +kernel
theorem d_Rd_readTerm_113 : decode prog_3_method_11_code 113 = .ok (.bipush 91, 2) := by decide +kernel
theorem d_Rd_readTerm_115 : decode prog_3_method_11_code 115 = .ok (.invokevirtual 39, 3) := by decide +kernel
theorem d_Rd_readTerm_118 : decode prog_3_method_11_code 118 = .ok (.ifCond .eq 14, 3) := by decide +kernel
theorem d_Rd_readTerm_121 : decode prog_3_method_11_code 121 = .ok (.aload_n 0, 1) := by decide +kernel
theorem d_Rd_readTerm_122 : decode prog_3_method_11_code 122 = .ok (.invokevirtual 134, 3) := by decide +kernel
theorem d_Rd_readTerm_125 : decode prog_3_method_11_code 125 = .ok (.ifCond .eq 7, 3) := by decide +kernel
theorem d_Rd_readTerm_128 : decode prog_3_method_11_code 128 = .ok (.iconst 1, 1) := by decide +kernel
theorem d_Rd_readTerm_129 : decode prog_3_method_11_code 129 = .ok (.goto 4, 3) := by decide +kernel
theorem d_Rd_readTerm_132 : decode prog_3_method_11_code 132 = .ok (.iconst 0, 1) := by decide +kernel
theorem d_Rd_readTerm_133 : decode prog_3_method_11_code 133 = .ok (.ireturn, 1) := by decide +kernel
theorem d_Rd_readGoals_0 : decode prog_3_method_10_code 0 = .ok (.iconst 1, 1) := by decide +kernel
theorem d_Rd_readGoals_1 : decode prog_3_method_10_code 1 = .ok (.istore_n 1, 1) := by decide +kernel
theorem d_Rd_readGoals_2 : decode prog_3_method_10_code 2 = .ok (.iconst 0, 1) := by decide +kernel
theorem d_Rd_readGoals_3 : decode prog_3_method_10_code 3 = .ok (.istore_n 2, 1) := by decide +kernel
theorem d_Rd_readGoals_4 : decode prog_3_method_10_code 4 = .ok (.iload_n 2, 1) := by decide +kernel
theorem d_Rd_readGoals_5 : decode prog_3_method_10_code 5 = .ok (.sipush 240, 3) := by decide +kernel
theorem d_Rd_readGoals_8 : decode prog_3_method_10_code 8 = .ok (.if_icmp .ge 70, 3) := by decide +kernel
theorem d_Rd_readGoals_11 : decode prog_3_method_10_code 11 = .ok (.iload_n 1, 1) := by decide +kernel
theorem d_Rd_readGoals_12 : decode prog_3_method_10_code 12 = .ok (.ifCond .eq 66, 3) := by decide +kernel
theorem d_Rd_readGoals_15 : decode prog_3_method_10_code 15 = .ok (.aload_n 0, 1) := by decide +kernel
theorem d_Rd_readGoals_16 : decode prog_3_method_10_code 16 = .ok (.dup, 1) := by decide +kernel
theorem d_Rd_readGoals_17 : decode prog_3_method_10_code 17 = .ok (.getfield 102, 3) := by decide +kernel
theorem d_Rd_readGoals_20 : decode prog_3_method_10_code 20 = .ok (.iconst 1, 1) := by decide +kernel
theorem d_Rd_readGoals_21 : decode prog_3_method_10_code 21 = .ok (.iadd, 1) := by decide +kernel
theorem d_Rd_readGoals_22 : decode prog_3_method_10_code 22 = .ok (.putfield 102, 3) := by decide +kernel
theorem d_Rd_readGoals_25 : decode prog_3_method_10_code 25 = .ok (.aload_n 0, 1) := by decide +kernel
theorem d_Rd_readGoals_26 : decode prog_3_method_10_code 26 = .ok (.bipush 33, 2) := by decide +kernel
theorem d_Rd_readGoals_28 : decode prog_3_method_10_code 28 = .ok (.invokevirtual 105, 3) := by decide +kernel
theorem d_Rd_readGoals_31 : decode prog_3_method_10_code 31 = .ok (.ifCond .eq 16, 3) := by decide +kernel
theorem d_Rd_readGoals_34 : decode prog_3_method_10_code 34 = .ok (.aload_n 0, 1) := by decide +kernel
theorem d_Rd_readGoals_35 : decode prog_3_method_10_code 35 = .ok (.getfield 23, 3) := by decide +kernel
theorem d_Rd_readGoals_38 : decode prog_3_method_10_code 38 = .ok (.bipush 16, 2) := by decide +kernel
theorem d_Rd_readGoals_40 : decode prog_3_method_10_code 40 = .ok (.invokevirtual 116, 3) := by decide +kernel
theorem d_Rd_readGoals_43 : decode prog_3_method_10_code 43 = .ok (.pop, 1) := by decide +kernel
theorem d_Rd_readGoals_44 : decode prog_3_method_10_code 44 = .ok (.goto 21, 3) := by decide +kernel
theorem d_Rd_readGoals_47 : decode prog_3_method_10_code 47 = .ok (.aload_n 0, 1) := by decide +kernel
theorem d_Rd_readGoals_48 : decode prog_3_method_10_code 48 = .ok (.bipush 97, 2) := by decide +kernel
theorem d_Rd_readGoals_50 : decode prog_3_method_10_code 50 = .ok (.invokevirtual 39, 3) := by decide +kernel
theorem d_Rd_readGoals_53 : decode prog_3_method_10_code 53 = .ok (.ifCond .eq 10, 3) := by decide +kernel
theorem d_Rd_readGoals_56 : decode prog_3_method_10_code 56 = .ok (.aload_n 0, 1) := by decide +kernel
theorem d_Rd_readGoals_57 : decode prog_3_method_10_code 57 = .ok (.invokevirtual 113, 3) := by decide +kernel
theorem d_Rd_readGoals_60 : decode prog_3_method_10_code 60 = .ok (.ifCond .ne 5, 3) := by decide +kernel
theorem d_Rd_readGoals_63 : decode prog_3_method_10_code 63 = .ok (.iconst 0, 1) := by decide +kernel
theorem d_Rd_readGoals_64 : decode prog_3_method_10_code 64 = .ok (.ireturn, 1) := by decide +kernel
theorem d_Rd_readGoals_65 : decode prog_3_method_10_code 65 = .ok (.aload_n 0, 1) := by decide +kernel
theorem d_Rd_readGoals_66 : decode prog_3_method_10_code 66 = .ok (.bipush 44, 2) := by decide +kernel
theorem d_Rd_readGoals_68 : decode prog_3_method_10_code 68 = .ok (.invokevirtual 105, 3) := by decide +kernel
theorem d_Rd_readGoals_71 : decode prog_3_method_10_code 71 = .ok (.istore_n 1, 1) := by decide +kernel
theorem d_Rd_readGoals_72 : decode prog_3_method_10_code 72 = .ok (.iinc 2 1, 3) := by decide +kernel
theorem d_Rd_readGoals_75 : decode prog_3_method_10_code 75 = .ok (.goto (-71), 3) := by decide +kernel
theorem d_Rd_readGoals_78 : decode prog_3_method_10_code 78 = .ok (.iconst 1, 1) := by decide +kernel
theorem d_Rd_readGoals_79 : decode prog_3_method_10_code 79 = .ok (.ireturn, 1) := by decide +kernel
theorem d_Cod_startOf_r_0 : decode prog_4_method_9_code 0 = .ok (.iload_n 1, 1) := by decide +kernel
theorem d_Cod_startOf_r_1 : decode prog_4_method_9_code 1 = .ok (.iconst 1, 1) := by decide +kernel
theorem d_Cod_startOf_r_2 : decode prog_4_method_9_code 2 = .ok (.if_icmp .lt 12, 3) := by decide +kernel
theorem d_Cod_startOf_r_5 : decode prog_4_method_9_code 5 = .ok (.iload_n 1, 1) := by decide +kernel
theorem d_Cod_startOf_r_6 : decode prog_4_method_9_code 6 = .ok (.aload_n 0, 1) := by decide +kernel
theorem d_Cod_startOf_r_7 : decode prog_4_method_9_code 7 = .ok (.getfield 18, 3) := by decide +kernel
theorem d_Cod_startOf_r_10 : decode prog_4_method_9_code 10 = .ok (.arraylength, 1) := by decide +kernel
theorem d_Cod_startOf_r_11 : decode prog_4_method_9_code 11 = .ok (.if_icmp .le 7, 3) := by decide +kernel
theorem d_Cod_startOf_r_14 : decode prog_4_method_9_code 14 = .ok (.iconst 0, 1) := by decide +kernel
theorem d_Cod_startOf_r_15 : decode prog_4_method_9_code 15 = .ok (.goto 11, 3) := by decide +kernel
theorem d_Cod_startOf_r_18 : decode prog_4_method_9_code 18 = .ok (.aload_n 0, 1) := by decide +kernel
theorem d_Cod_startOf_r_19 : decode prog_4_method_9_code 19 = .ok (.getfield 18, 3) := by decide +kernel
theorem d_Cod_startOf_r_22 : decode prog_4_method_9_code 22 = .ok (.iload_n 1, 1) := by decide +kernel
theorem d_Cod_startOf_r_23 : decode prog_4_method_9_code 23 = .ok (.iconst 1, 1) := by decide +kernel
theorem d_Cod_startOf_r_24 : decode prog_4_method_9_code 24 = .ok (.isub, 1) := by decide +kernel
theorem d_Cod_startOf_r_25 : decode prog_4_method_9_code 25 = .ok (.iaload, 1) := by decide +kernel
theorem d_Cod_startOf_r_26 : decode prog_4_method_9_code 26 = .ok (.ireturn, 1) := by decide +kernel
theorem d_Cod_symbolsSince_r_0 : decode prog_4_method_13_code 0 = .ok (.aload_n 0, 1) := by decide +kernel
theorem d_Cod_symbolsSince_r_1 : decode prog_4_method_13_code 1 = .ok (.getfield 21, 3) := by decide +kernel
theorem d_Cod_symbolsSince_r_4 : decode prog_4_method_13_code 4 = .ok (.aload_n 0, 1) := by decide +kernel
theorem d_Cod_symbolsSince_r_5 : decode prog_4_method_13_code 5 = .ok (.iload_n 1, 1) := by decide +kernel
theorem d_Cod_symbolsSince_r_6 : decode prog_4_method_13_code 6 = .ok (.invokevirtual 28, 3) := by decide +kernel
theorem d_Cod_symbolsSince_r_9 : decode prog_4_method_13_code 9 = .ok (.isub, 1) := by decide +kernel
theorem d_Cod_symbolsSince_r_10 : decode prog_4_method_13_code 10 = .ok (.ireturn, 1) := by decide +kernel
theorem d_P_argumentsOf_0 : decode prog_1_method_15_code 0 = .ok (.iload_n 0, 1) := by decide +kernel
theorem d_P_argumentsOf_1 : decode prog_1_method_15_code 1 = .ok (.ifCond .ge 7, 3) := by decide +kernel
theorem d_P_argumentsOf_4 : decode prog_1_method_15_code 4 = .ok (.iconst 0, 1) := by decide +kernel
theorem d_P_argumentsOf_5 : decode prog_1_method_15_code 5 = .ok (.goto 7, 3) := by decide +kernel
theorem d_P_argumentsOf_8 : decode prog_1_method_15_code 8 = .ok (.iload_n 0, 1) := by decide +kernel
theorem d_P_argumentsOf_9 : decode prog_1_method_15_code 9 = .ok (.bipush 8, 2) := by decide +kernel
theorem d_P_argumentsOf_11 : decode prog_1_method_15_code 11 = .ok (.irem, 1) := by decide +kernel
theorem d_P_argumentsOf_12 : decode prog_1_method_15_code 12 = .ok (.ireturn, 1) := by decide +kernel
theorem d_Cod_measure_r_0 : decode prog_4_method_6_code 0 = .ok (.aload_n 0, 1) := by decide +kernel
theorem d_Cod_measure_r_1 : decode prog_4_method_6_code 1 = .ok (.getfield 21, 3) := by decide +kernel
theorem d_Cod_measure_r_4 : decode prog_4_method_6_code 4 = .ok (.iconst 1, 1) := by decide +kernel
theorem d_Cod_measure_r_5 : decode prog_4_method_6_code 5 = .ok (.isub, 1) := by decide +kernel
theorem d_Cod_measure_r_6 : decode prog_4_method_6_code 6 = .ok (.istore_n 2, 1) := by decide +kernel
theorem d_Cod_measure_r_7 : decode prog_4_method_6_code 7 = .ok (.iload_n 2, 1) := by decide +kernel
theorem d_Cod_measure_r_8 : decode prog_4_method_6_code 8 = .ok (.iload_n 1, 1) := by decide +kernel
theorem d_Cod_measure_r_9 : decode prog_4_method_6_code 9 = .ok (.if_icmp .lt 66, 3) := by decide +kernel
theorem d_Cod_measure_r_12 : decode prog_4_method_6_code 12 = .ok (.iload_n 2, 1) := by decide +kernel
theorem d_Cod_measure_r_13 : decode prog_4_method_6_code 13 = .ok (.iconst 1, 1) := by decide +kernel
theorem d_Cod_measure_r_14 : decode prog_4_method_6_code 14 = .ok (.iadd, 1) := by decide +kernel
theorem d_Cod_measure_r_15 : decode prog_4_method_6_code 15 = .ok (.istore_n 3, 1) := by decide +kernel
theorem d_Cod_measure_r_16 : decode prog_4_method_6_code 16 = .ok (.aload_n 0, 1) := by decide +kernel
theorem d_Cod_measure_r_17 : decode prog_4_method_6_code 17 = .ok (.getfield 9, 3) := by decide +kernel
theorem d_Cod_measure_r_20 : decode prog_4_method_6_code 20 = .ok (.iload_n 2, 1) := by decide +kernel
theorem d_Cod_measure_r_21 : decode prog_4_method_6_code 21 = .ok (.iaload, 1) := by decide +kernel
theorem d_Cod_measure_r_22 : decode prog_4_method_6_code 22 = .ok (.invokestatic 36, 3) := by decide +kernel
theorem d_Cod_measure_r_25 : decode prog_4_method_6_code 25 = .ok (.istore 4, 2) := by decide +kernel
theorem d_Cod_measure_r_27 : decode prog_4_method_6_code 27 = .ok (.iconst 0, 1) := by decide +kernel
theorem d_Cod_measure_r_28 : decode prog_4_method_6_code 28 = .ok (.istore 5, 2) := by decide +kernel
theorem d_Cod_measure_r_30 : decode prog_4_method_6_code 30 = .ok (.iload 5, 2) := by decide +kernel
theorem d_Cod_measure_r_32 : decode prog_4_method_6_code 32 = .ok (.iload 4, 2) := by decide +kernel
theorem d_Cod_measure_r_34 : decode prog_4_method_6_code 34 = .ok (.if_icmp .ge 26, 3) := by decide +kernel
theorem d_Cod_measure_r_37 : decode prog_4_method_6_code 37 = .ok (.iload_n 3, 1) := by decide +kernel
theorem d_Cod_measure_r_38 : decode prog_4_method_6_code 38 = .ok (.aload_n 0, 1) := by decide +kernel
theorem d_Cod_measure_r_39 : decode prog_4_method_6_code 39 = .ok (.getfield 21, 3) := by decide +kernel
theorem d_Cod_measure_r_42 : decode prog_4_method_6_code 42 = .ok (.if_icmp .ge 18, 3) := by decide +kernel
theorem d_Cod_measure_r_45 : decode prog_4_method_6_code 45 = .ok (.iload_n 3, 1) := by decide +kernel
theorem d_Cod_measure_r_46 : decode prog_4_method_6_code 46 = .ok (.aload_n 0, 1) := by decide +kernel
theorem d_Cod_measure_r_47 : decode prog_4_method_6_code 47 = .ok (.getfield 15, 3) := by decide +kernel
theorem d_Cod_measure_r_50 : decode prog_4_method_6_code 50 = .ok (.iload_n 3, 1) := by decide +kernel
theorem d_Cod_measure_r_51 : decode prog_4_method_6_code 51 = .ok (.iaload, 1) := by decide +kernel
theorem d_Cod_measure_r_52 : decode prog_4_method_6_code 52 = .ok (.iadd, 1) := by decide +kernel
theorem d_Cod_measure_r_53 : decode prog_4_method_6_code 53 = .ok (.istore_n 3, 1) := by decide +kernel
theorem d_Cod_measure_r_54 : decode prog_4_method_6_code 54 = .ok (.iinc 5 1, 3) := by decide +kernel
theorem d_Cod_measure_r_57 : decode prog_4_method_6_code 57 = .ok (.goto (-27), 3) := by decide +kernel
theorem d_Cod_measure_r_60 : decode prog_4_method_6_code 60 = .ok (.aload_n 0, 1) := by decide +kernel
theorem d_Cod_measure_r_61 : decode prog_4_method_6_code 61 = .ok (.getfield 15, 3) := by decide +kernel
theorem d_Cod_measure_r_64 : decode prog_4_method_6_code 64 = .ok (.iload_n 2, 1) := by decide +kernel
theorem d_Cod_measure_r_65 : decode prog_4_method_6_code 65 = .ok (.iload_n 3, 1) := by decide +kernel
theorem d_Cod_measure_r_66 : decode prog_4_method_6_code 66 = .ok (.iload_n 2, 1) := by decide +kernel
theorem d_Cod_measure_r_67 : decode prog_4_method_6_code 67 = .ok (.isub, 1) := by decide +kernel
theorem d_Cod_measure_r_68 : decode prog_4_method_6_code 68 = .ok (.iastore, 1) := by decide +kernel
theorem d_Cod_measure_r_69 : decode prog_4_method_6_code 69 = .ok (.iinc 2 (-1), 3) := by decide +kernel
theorem d_Cod_measure_r_72 : decode prog_4_method_6_code 72 = .ok (.goto (-65), 3) := by decide +kernel
theorem d_Cod_measure_r_75 : decode prog_4_method_6_code 75 = .ok (.return_, 1) := by decide +kernel
theorem d_Cod_endPart_r_0 : decode prog_4_method_5_code 0 = .ok (.aload_n 0, 1) := by decide +kernel
theorem d_Cod_endPart_r_1 : decode prog_4_method_5_code 1 = .ok (.getfield 25, 3) := by decide +kernel
theorem d_Cod_endPart_r_4 : decode prog_4_method_5_code 4 = .ok (.aload_n 0, 1) := by decide +kernel
theorem d_Cod_endPart_r_5 : decode prog_4_method_5_code 5 = .ok (.getfield 18, 3) := by decide +kernel
theorem d_Cod_endPart_r_8 : decode prog_4_method_5_code 8 = .ok (.arraylength, 1) := by decide +kernel
theorem d_Cod_endPart_r_9 : decode prog_4_method_5_code 9 = .ok (.if_icmp .ge 28, 3) := by decide +kernel
theorem d_Cod_endPart_r_12 : decode prog_4_method_5_code 12 = .ok (.aload_n 0, 1) := by decide +kernel
theorem d_Cod_endPart_r_13 : decode prog_4_method_5_code 13 = .ok (.getfield 18, 3) := by decide +kernel
theorem d_Cod_endPart_r_16 : decode prog_4_method_5_code 16 = .ok (.aload_n 0, 1) := by decide +kernel
theorem d_Cod_endPart_r_17 : decode prog_4_method_5_code 17 = .ok (.getfield 25, 3) := by decide +kernel
theorem d_Cod_endPart_r_20 : decode prog_4_method_5_code 20 = .ok (.aload_n 0, 1) := by decide +kernel
theorem d_Cod_endPart_r_21 : decode prog_4_method_5_code 21 = .ok (.getfield 21, 3) := by decide +kernel
theorem d_Cod_endPart_r_24 : decode prog_4_method_5_code 24 = .ok (.iastore, 1) := by decide +kernel
theorem d_Cod_endPart_r_25 : decode prog_4_method_5_code 25 = .ok (.aload_n 0, 1) := by decide +kernel
theorem d_Cod_endPart_r_26 : decode prog_4_method_5_code 26 = .ok (.aload_n 0, 1) := by decide +kernel
theorem d_Cod_endPart_r_27 : decode prog_4_method_5_code 27 = .ok (.aload_n 0, 1) := by decide +kernel
theorem d_Cod_endPart_r_28 : decode prog_4_method_5_code 28 = .ok (.getfield 25, 3) := by decide +kernel
theorem d_Cod_endPart_r_31 : decode prog_4_method_5_code 31 = .ok (.invokevirtual 28, 3) := by decide +kernel
theorem d_Cod_endPart_r_34 : decode prog_4_method_5_code 34 = .ok (.invokevirtual 32, 3) := by decide +kernel
theorem d_Cod_endPart_r_37 : decode prog_4_method_5_code 37 = .ok (.aload_n 0, 1) := by decide +kernel
theorem d_Cod_endPart_r_38 : decode prog_4_method_5_code 38 = .ok (.dup, 1) := by decide +kernel
theorem d_Cod_endPart_r_39 : decode prog_4_method_5_code 39 = .ok (.getfield 25, 3) := by decide +kernel
theorem d_Cod_endPart_r_42 : decode prog_4_method_5_code 42 = .ok (.iconst 1, 1) := by decide +kernel
theorem d_Cod_endPart_r_43 : decode prog_4_method_5_code 43 = .ok (.iadd, 1) := by decide +kernel
theorem d_Cod_endPart_r_44 : decode prog_4_method_5_code 44 = .ok (.putfield 25, 3) := by decide +kernel
theorem d_Cod_endPart_r_47 : decode prog_4_method_5_code 47 = .ok (.return_, 1) := by decide +kernel
theorem d_Rd_endPart_0 : decode prog_3_method_8_code 0 = .ok (.aload_n 0, 1) := by decide +kernel
theorem d_Rd_endPart_1 : decode prog_3_method_8_code 1 = .ok (.bipush 46, 2) := by decide +kernel
theorem d_Rd_endPart_3 : decode prog_3_method_8_code 3 = .ok (.invokevirtual 105, 3) := by decide +kernel
theorem d_Rd_endPart_6 : decode prog_3_method_8_code 6 = .ok (.ifCond .ne 5, 3) := by decide +kernel
theorem d_Rd_endPart_9 : decode prog_3_method_8_code 9 = .ok (.iconst 0, 1) := by decide +kernel
theorem d_Rd_endPart_10 : decode prog_3_method_8_code 10 = .ok (.ireturn, 1) := by decide +kernel
theorem d_Rd_endPart_11 : decode prog_3_method_8_code 11 = .ok (.aload_n 0, 1) := by decide +kernel
theorem d_Rd_endPart_12 : decode prog_3_method_8_code 12 = .ok (.dup, 1) := by decide +kernel
theorem d_Rd_endPart_13 : decode prog_3_method_8_code 13 = .ok (.getfield 47, 3) := by decide +kernel
theorem d_Rd_endPart_16 : decode prog_3_method_8_code 16 = .ok (.aload_n 0, 1) := by decide +kernel
theorem d_Rd_endPart_17 : decode prog_3_method_8_code 17 = .ok (.getfield 23, 3) := by decide +kernel
theorem d_Rd_endPart_20 : decode prog_3_method_8_code 20 = .ok (.aload_n 0, 1) := by decide +kernel
theorem d_Rd_endPart_21 : decode prog_3_method_8_code 21 = .ok (.getfield 23, 3) := by decide +kernel
theorem d_Rd_endPart_24 : decode prog_3_method_8_code 24 = .ok (.invokevirtual 51, 3) := by decide +kernel
theorem d_Rd_endPart_27 : decode prog_3_method_8_code 27 = .ok (.invokevirtual 108, 3) := by decide +kernel
theorem d_Rd_endPart_30 : decode prog_3_method_8_code 30 = .ok (.bipush 40, 2) := by decide +kernel
theorem d_Rd_endPart_32 : decode prog_3_method_8_code 32 = .ok (.if_icmp .le 7, 3) := by decide +kernel
theorem d_Rd_endPart_35 : decode prog_3_method_8_code 35 = .ok (.iconst 1, 1) := by decide +kernel
theorem d_Rd_endPart_36 : decode prog_3_method_8_code 36 = .ok (.goto 4, 3) := by decide +kernel
theorem d_Rd_endPart_39 : decode prog_3_method_8_code 39 = .ok (.iconst 0, 1) := by decide +kernel
theorem d_Rd_endPart_40 : decode prog_3_method_8_code 40 = .ok (.ior, 1) := by decide +kernel
theorem d_Rd_endPart_41 : decode prog_3_method_8_code 41 = .ok (.putfield 47, 3) := by decide +kernel
theorem d_Rd_endPart_44 : decode prog_3_method_8_code 44 = .ok (.aload_n 0, 1) := by decide +kernel
theorem d_Rd_endPart_45 : decode prog_3_method_8_code 45 = .ok (.dup, 1) := by decide +kernel
theorem d_Rd_endPart_46 : decode prog_3_method_8_code 46 = .ok (.getfield 47, 3) := by decide +kernel
theorem d_Rd_endPart_49 : decode prog_3_method_8_code 49 = .ok (.aload_n 0, 1) := by decide +kernel
theorem d_Rd_endPart_50 : decode prog_3_method_8_code 50 = .ok (.getfield 102, 3) := by decide +kernel
theorem d_Rd_endPart_53 : decode prog_3_method_8_code 53 = .ok (.bipush 8, 2) := by decide +kernel
theorem d_Rd_endPart_55 : decode prog_3_method_8_code 55 = .ok (.if_icmp .le 7, 3) := by decide +kernel
theorem d_Rd_endPart_58 : decode prog_3_method_8_code 58 = .ok (.iconst 1, 1) := by decide +kernel
theorem d_Rd_endPart_59 : decode prog_3_method_8_code 59 = .ok (.goto 4, 3) := by decide +kernel
theorem d_Rd_endPart_62 : decode prog_3_method_8_code 62 = .ok (.iconst 0, 1) := by decide +kernel
theorem d_Rd_endPart_63 : decode prog_3_method_8_code 63 = .ok (.ior, 1) := by decide +kernel
theorem d_Rd_endPart_64 : decode prog_3_method_8_code 64 = .ok (.putfield 47, 3) := by decide +kernel
theorem d_Rd_endPart_67 : decode prog_3_method_8_code 67 = .ok (.aload_n 0, 1) := by decide +kernel
theorem d_Rd_endPart_68 : decode prog_3_method_8_code 68 = .ok (.getfield 23, 3) := by decide +kernel
theorem d_Rd_endPart_71 : decode prog_3_method_8_code 71 = .ok (.invokevirtual 111, 3) := by decide +kernel
theorem d_Rd_endPart_74 : decode prog_3_method_8_code 74 = .ok (.iconst 1, 1) := by decide +kernel
theorem d_Rd_endPart_75 : decode prog_3_method_8_code 75 = .ok (.ireturn, 1) := by decide +kernel
theorem d_Rd_readClause_0 : decode prog_3_method_9_code 0 = .ok (.aload_n 0, 1) := by decide +kernel
theorem d_Rd_readClause_1 : decode prog_3_method_9_code 1 = .ok (.invokevirtual 81, 3) := by decide +kernel
theorem d_Rd_readClause_4 : decode prog_3_method_9_code 4 = .ok (.aload_n 0, 1) := by decide +kernel
theorem d_Rd_readClause_5 : decode prog_3_method_9_code 5 = .ok (.bipush 97, 2) := by decide +kernel
theorem d_Rd_readClause_7 : decode prog_3_method_9_code 7 = .ok (.invokevirtual 39, 3) := by decide +kernel
theorem d_Rd_readClause_10 : decode prog_3_method_9_code 10 = .ok (.ifCond .eq 10, 3) := by decide +kernel
theorem d_Rd_readClause_13 : decode prog_3_method_9_code 13 = .ok (.aload_n 0, 1) := by decide +kernel
theorem d_Rd_readClause_14 : decode prog_3_method_9_code 14 = .ok (.invokevirtual 113, 3) := by decide +kernel
theorem d_Rd_readClause_17 : decode prog_3_method_9_code 17 = .ok (.ifCond .ne 5, 3) := by decide +kernel
theorem d_Rd_readClause_20 : decode prog_3_method_9_code 20 = .ok (.iconst 0, 1) := by decide +kernel
theorem d_Rd_readClause_21 : decode prog_3_method_9_code 21 = .ok (.ireturn, 1) := by decide +kernel
theorem d_Rd_readClause_22 : decode prog_3_method_9_code 22 = .ok (.aload_n 0, 1) := by decide +kernel
theorem d_Rd_readClause_23 : decode prog_3_method_9_code 23 = .ok (.bipush 58, 2) := by decide +kernel
theorem d_Rd_readClause_25 : decode prog_3_method_9_code 25 = .ok (.invokevirtual 105, 3) := by decide +kernel
theorem d_Rd_readClause_28 : decode prog_3_method_9_code 28 = .ok (.ifCond .eq 12, 3) := by decide +kernel
theorem d_Rd_readClause_31 : decode prog_3_method_9_code 31 = .ok (.aload_n 0, 1) := by decide +kernel
theorem d_Rd_readClause_32 : decode prog_3_method_9_code 32 = .ok (.invokevirtual 59, 3) := by decide +kernel
theorem d_Rd_readClause_35 : decode prog_3_method_9_code 35 = .ok (.ifCond .ne 5, 3) := by decide +kernel
theorem d_Rd_readClause_38 : decode prog_3_method_9_code 38 = .ok (.iconst 0, 1) := by decide +kernel
theorem d_Rd_readClause_39 : decode prog_3_method_9_code 39 = .ok (.ireturn, 1) := by decide +kernel
theorem d_Rd_readClause_40 : decode prog_3_method_9_code 40 = .ok (.aload_n 0, 1) := by decide +kernel
theorem d_Rd_readClause_41 : decode prog_3_method_9_code 41 = .ok (.invokevirtual 62, 3) := by decide +kernel
theorem d_Rd_readClause_44 : decode prog_3_method_9_code 44 = .ok (.ireturn, 1) := by decide +kernel
theorem d_Nam_areTooMany_0 : decode prog_6_method_4_code 0 = .ok (.aload_n 0, 1) := by decide +kernel
theorem d_Nam_areTooMany_1 : decode prog_6_method_4_code 1 = .ok (.getfield 19, 3) := by decide +kernel
theorem d_Nam_areTooMany_4 : decode prog_6_method_4_code 4 = .ok (.ireturn, 1) := by decide +kernel
theorem d_Nam_keep_0 : decode prog_6_method_5_code 0 = .ok (.aload_n 0, 1) := by decide +kernel
theorem d_Nam_keep_1 : decode prog_6_method_5_code 1 = .ok (.aload_n 0, 1) := by decide +kernel
theorem d_Nam_keep_2 : decode prog_6_method_5_code 2 = .ok (.getfield 15, 3) := by decide +kernel
theorem d_Nam_keep_5 : decode prog_6_method_5_code 5 = .ok (.putfield 23, 3) := by decide +kernel
theorem d_Nam_keep_8 : decode prog_6_method_5_code 8 = .ok (.return_, 1) := by decide +kernel
theorem d_Nam_drop_0 : decode prog_6_method_6_code 0 = .ok (.aload_n 0, 1) := by decide +kernel
theorem d_Nam_drop_1 : decode prog_6_method_6_code 1 = .ok (.aload_n 0, 1) := by decide +kernel
theorem d_Nam_drop_2 : decode prog_6_method_6_code 2 = .ok (.getfield 23, 3) := by decide +kernel
theorem d_Nam_drop_5 : decode prog_6_method_6_code 5 = .ok (.putfield 15, 3) := by decide +kernel
theorem d_Nam_drop_8 : decode prog_6_method_6_code 8 = .ok (.aload_n 0, 1) := by decide +kernel
theorem d_Nam_drop_9 : decode prog_6_method_6_code 9 = .ok (.iconst 0, 1) := by decide +kernel
theorem d_Nam_drop_10 : decode prog_6_method_6_code 10 = .ok (.putfield 19, 3) := by decide +kernel
theorem d_Nam_drop_13 : decode prog_6_method_6_code 13 = .ok (.return_, 1) := by decide +kernel
theorem d_Tok_placeAt_0 : decode prog_11_method_7_code 0 = .ok (.iload_n 1, 1) := by decide +kernel
theorem d_Tok_placeAt_1 : decode prog_11_method_7_code 1 = .ok (.ifCond .lt 20, 3) := by decide +kernel
theorem d_Tok_placeAt_4 : decode prog_11_method_7_code 4 = .ok (.iload_n 1, 1) := by decide +kernel
theorem d_Tok_placeAt_5 : decode prog_11_method_7_code 5 = .ok (.aload_n 0, 1) := by decide +kernel
theorem d_Tok_placeAt_6 : decode prog_11_method_7_code 6 = .ok (.getfield 23, 3) := by decide +kernel
theorem d_Tok_placeAt_9 : decode prog_11_method_7_code 9 = .ok (.if_icmp .ge 12, 3) := by decide +kernel
theorem d_Tok_placeAt_12 : decode prog_11_method_7_code 12 = .ok (.aload_n 0, 1) := by decide +kernel
theorem d_Tok_placeAt_13 : decode prog_11_method_7_code 13 = .ok (.getfield 15, 3) := by decide +kernel
theorem d_Tok_placeAt_16 : decode prog_11_method_7_code 16 = .ok (.iload_n 1, 1) := by decide +kernel
theorem d_Tok_placeAt_17 : decode prog_11_method_7_code 17 = .ok (.iaload, 1) := by decide +kernel
theorem d_Tok_placeAt_18 : decode prog_11_method_7_code 18 = .ok (.goto 4, 3) := by decide +kernel
theorem d_Tok_placeAt_21 : decode prog_11_method_7_code 21 = .ok (.iconst 0, 1) := by decide +kernel
theorem d_Tok_placeAt_22 : decode prog_11_method_7_code 22 = .ok (.ireturn, 1) := by decide +kernel
theorem d_Rd_outcome_0 : decode prog_3_method_6_code 0 = .ok (.aload_n 0, 1) := by decide +kernel
theorem d_Rd_outcome_1 : decode prog_3_method_6_code 1 = .ok (.dup, 1) := by decide +kernel
theorem d_Rd_outcome_2 : decode prog_3_method_6_code 2 = .ok (.getfield 47, 3) := by decide +kernel
theorem d_Rd_outcome_5 : decode prog_3_method_6_code 5 = .ok (.aload_n 0, 1) := by decide +kernel
theorem d_Rd_outcome_6 : decode prog_3_method_6_code 6 = .ok (.getfield 31, 3) := by decide +kernel
theorem d_Rd_outcome_9 : decode prog_3_method_6_code 9 = .ok (.invokevirtual 84, 3) := by decide +kernel
theorem d_Rd_outcome_12 : decode prog_3_method_6_code 12 = .ok (.ior, 1) := by decide +kernel
theorem d_Rd_outcome_13 : decode prog_3_method_6_code 13 = .ok (.putfield 47, 3) := by decide +kernel
theorem d_Rd_outcome_16 : decode prog_3_method_6_code 16 = .ok (.iload_n 1, 1) := by decide +kernel
theorem d_Rd_outcome_17 : decode prog_3_method_6_code 17 = .ok (.ifCond .eq 19, 3) := by decide +kernel
theorem d_Rd_outcome_20 : decode prog_3_method_6_code 20 = .ok (.aload_n 0, 1) := by decide +kernel
theorem d_Rd_outcome_21 : decode prog_3_method_6_code 21 = .ok (.getfield 47, 3) := by decide +kernel
theorem d_Rd_outcome_24 : decode prog_3_method_6_code 24 = .ok (.ifCond .ne 12, 3) := by decide +kernel
theorem d_Rd_outcome_27 : decode prog_3_method_6_code 27 = .ok (.aload_n 0, 1) := by decide +kernel
theorem d_Rd_outcome_28 : decode prog_3_method_6_code 28 = .ok (.getfield 31, 3) := by decide +kernel
theorem d_Rd_outcome_31 : decode prog_3_method_6_code 31 = .ok (.invokevirtual 89, 3) := by decide +kernel
theorem d_Rd_outcome_34 : decode prog_3_method_6_code 34 = .ok (.iload_n 2, 1) := by decide +kernel
theorem d_Rd_outcome_35 : decode prog_3_method_6_code 35 = .ok (.ireturn, 1) := by decide +kernel
theorem d_Rd_outcome_36 : decode prog_3_method_6_code 36 = .ok (.aload_n 0, 1) := by decide +kernel
theorem d_Rd_outcome_37 : decode prog_3_method_6_code 37 = .ok (.getfield 31, 3) := by decide +kernel
theorem d_Rd_outcome_40 : decode prog_3_method_6_code 40 = .ok (.invokevirtual 92, 3) := by decide +kernel
theorem d_Rd_outcome_43 : decode prog_3_method_6_code 43 = .ok (.iload_n 1, 1) := by decide +kernel
theorem d_Rd_outcome_44 : decode prog_3_method_6_code 44 = .ok (.ifCond .eq 9, 3) := by decide +kernel
theorem d_Rd_outcome_47 : decode prog_3_method_6_code 47 = .ok (.sipush (-1000), 3) := by decide +kernel
theorem d_Rd_outcome_50 : decode prog_3_method_6_code 50 = .ok (.goto 16, 3) := by decide +kernel
theorem d_Rd_outcome_53 : decode prog_3_method_6_code 53 = .ok (.iconst (-1), 1) := by decide +kernel
theorem d_Rd_outcome_54 : decode prog_3_method_6_code 54 = .ok (.aload_n 0, 1) := by decide +kernel
theorem d_Rd_outcome_55 : decode prog_3_method_6_code 55 = .ok (.getfield 12, 3) := by decide +kernel
theorem d_Rd_outcome_58 : decode prog_3_method_6_code 58 = .ok (.aload_n 0, 1) := by decide +kernel
theorem d_Rd_outcome_59 : decode prog_3_method_6_code 59 = .ok (.getfield 75, 3) := by decide +kernel
theorem d_Rd_outcome_62 : decode prog_3_method_6_code 62 = .ok (.invokevirtual 95, 3) := by decide +kernel
theorem d_Rd_outcome_65 : decode prog_3_method_6_code 65 = .ok (.isub, 1) := by decide +kernel
theorem d_Rd_outcome_66 : decode prog_3_method_6_code 66 = .ok (.ireturn, 1) := by decide +kernel
theorem d_Rd_readClauses_0 : decode prog_3_method_3_code 0 = .ok (.aload_n 0, 1) := by decide +kernel
theorem d_Rd_readClauses_1 : decode prog_3_method_3_code 1 = .ok (.aload_n 1, 1) := by decide +kernel
theorem d_Rd_readClauses_2 : decode prog_3_method_3_code 2 = .ok (.invokevirtual 35, 3) := by decide +kernel
theorem d_Rd_readClauses_5 : decode prog_3_method_3_code 5 = .ok (.iconst 1, 1) := by decide +kernel
theorem d_Rd_readClauses_6 : decode prog_3_method_3_code 6 = .ok (.istore_n 3, 1) := by decide +kernel
theorem d_Rd_readClauses_7 : decode prog_3_method_3_code 7 = .ok (.iconst 0, 1) := by decide +kernel
theorem d_Rd_readClauses_8 : decode prog_3_method_3_code 8 = .ok (.istore 4, 2) := by decide +kernel
theorem d_Rd_readClauses_10 : decode prog_3_method_3_code 10 = .ok (.iload 4, 2) := by decide +kernel
theorem d_Rd_readClauses_12 : decode prog_3_method_3_code 12 = .ok (.sipush 240, 3) := by decide +kernel
theorem d_Rd_readClauses_15 : decode prog_3_method_3_code 15 = .ok (.if_icmp .ge 27, 3) := by decide +kernel
theorem d_Rd_readClauses_18 : decode prog_3_method_3_code 18 = .ok (.iload_n 3, 1) := by decide +kernel
theorem d_Rd_readClauses_19 : decode prog_3_method_3_code 19 = .ok (.ifCond .eq 23, 3) := by decide +kernel
theorem d_Rd_readClauses_22 : decode prog_3_method_3_code 22 = .ok (.aload_n 0, 1) := by decide +kernel
theorem d_Rd_readClauses_23 : decode prog_3_method_3_code 23 = .ok (.bipush 32, 2) := by decide +kernel
theorem d_Rd_readClauses_25 : decode prog_3_method_3_code 25 = .ok (.invokevirtual 39, 3) := by decide +kernel
theorem d_Rd_readClauses_28 : decode prog_3_method_3_code 28 = .ok (.ifCond .ne 14, 3) := by decide +kernel
theorem d_Rd_readClauses_31 : decode prog_3_method_3_code 31 = .ok (.aload_n 0, 1) := by decide +kernel
theorem d_Rd_readClauses_32 : decode prog_3_method_3_code 32 = .ok (.invokevirtual 43, 3) := by decide +kernel
theorem d_Rd_readClauses_35 : decode prog_3_method_3_code 35 = .ok (.istore_n 3, 1) := by decide +kernel
theorem d_Rd_readClauses_36 : decode prog_3_method_3_code 36 = .ok (.iinc 4 1, 3) := by decide +kernel
theorem d_Rd_readClauses_39 : decode prog_3_method_3_code 39 = .ok (.goto (-29), 3) := by decide +kernel
theorem d_Rd_readClauses_42 : decode prog_3_method_3_code 42 = .ok (.aload_n 0, 1) := by decide +kernel
theorem d_Rd_readClauses_43 : decode prog_3_method_3_code 43 = .ok (.dup, 1) := by decide +kernel
theorem d_Rd_readClauses_44 : decode prog_3_method_3_code 44 = .ok (.getfield 47, 3) := by decide +kernel
theorem d_Rd_readClauses_47 : decode prog_3_method_3_code 47 = .ok (.iload_n 2, 1) := by decide +kernel
theorem d_Rd_readClauses_48 : decode prog_3_method_3_code 48 = .ok (.aload_n 0, 1) := by decide +kernel
theorem d_Rd_readClauses_49 : decode prog_3_method_3_code 49 = .ok (.getfield 23, 3) := by decide +kernel
theorem d_Rd_readClauses_52 : decode prog_3_method_3_code 52 = .ok (.invokevirtual 51, 3) := by decide +kernel
theorem d_Rd_readClauses_55 : decode prog_3_method_3_code 55 = .ok (.iadd, 1) := by decide +kernel
theorem d_Rd_readClauses_56 : decode prog_3_method_3_code 56 = .ok (.bipush 24, 2) := by decide +kernel
theorem d_Rd_readClauses_58 : decode prog_3_method_3_code 58 = .ok (.if_icmp .le 7, 3) := by decide +kernel
theorem d_Rd_readClauses_61 : decode prog_3_method_3_code 61 = .ok (.iconst 1, 1) := by decide +kernel
theorem d_Rd_readClauses_62 : decode prog_3_method_3_code 62 = .ok (.goto 4, 3) := by decide +kernel
theorem d_Rd_readClauses_65 : decode prog_3_method_3_code 65 = .ok (.iconst 0, 1) := by decide +kernel
theorem d_Rd_readClauses_66 : decode prog_3_method_3_code 66 = .ok (.ior, 1) := by decide +kernel
theorem d_Rd_readClauses_67 : decode prog_3_method_3_code 67 = .ok (.putfield 47, 3) := by decide +kernel
theorem d_Rd_readClauses_70 : decode prog_3_method_3_code 70 = .ok (.aload_n 0, 1) := by decide +kernel
theorem d_Rd_readClauses_71 : decode prog_3_method_3_code 71 = .ok (.iload_n 3, 1) := by decide +kernel
theorem d_Rd_readClauses_72 : decode prog_3_method_3_code 72 = .ok (.aload_n 0, 1) := by decide +kernel
theorem d_Rd_readClauses_73 : decode prog_3_method_3_code 73 = .ok (.getfield 23, 3) := by decide +kernel
theorem d_Rd_readClauses_76 : decode prog_3_method_3_code 76 = .ok (.invokevirtual 51, 3) := by decide +kernel
theorem d_Rd_readClauses_79 : decode prog_3_method_3_code 79 = .ok (.invokevirtual 55, 3) := by decide +kernel
theorem d_Rd_readClauses_82 : decode prog_3_method_3_code 82 = .ok (.ireturn, 1) := by decide +kernel
theorem d_Text_clear_0 : decode prog_10_method_4_code 0 = .ok (.aload_n 0, 1) := by decide +kernel
theorem d_Text_clear_1 : decode prog_10_method_4_code 1 = .ok (.iconst 0, 1) := by decide +kernel
theorem d_Text_clear_2 : decode prog_10_method_4_code 2 = .ok (.putfield 31, 3) := by decide +kernel
theorem d_Text_clear_5 : decode prog_10_method_4_code 5 = .ok (.return_, 1) := by decide +kernel
theorem d_Rd_code_0 : decode prog_3_method_2_code 0 = .ok (.aload_n 0, 1) := by decide +kernel
theorem d_Rd_code_1 : decode prog_3_method_2_code 1 = .ok (.getfield 23, 3) := by decide +kernel
theorem d_Rd_code_4 : decode prog_3_method_2_code 4 = .ok (.areturn, 1) := by decide +kernel
theorem d_Cod_endOf_r_0 : decode prog_4_method_10_code 0 = .ok (.iload_n 1, 1) := by decide +kernel
theorem d_Cod_endOf_r_1 : decode prog_4_method_10_code 1 = .ok (.ifCond .lt 12, 3) := by decide +kernel
theorem d_Cod_endOf_r_4 : decode prog_4_method_10_code 4 = .ok (.iload_n 1, 1) := by decide +kernel
theorem d_Cod_endOf_r_5 : decode prog_4_method_10_code 5 = .ok (.aload_n 0, 1) := by decide +kernel
theorem d_Cod_endOf_r_6 : decode prog_4_method_10_code 6 = .ok (.getfield 18, 3) := by decide +kernel
theorem d_Cod_endOf_r_9 : decode prog_4_method_10_code 9 = .ok (.arraylength, 1) := by decide +kernel
theorem d_Cod_endOf_r_10 : decode prog_4_method_10_code 10 = .ok (.if_icmp .lt 7, 3) := by decide +kernel
theorem d_Cod_endOf_r_13 : decode prog_4_method_10_code 13 = .ok (.iconst 0, 1) := by decide +kernel
theorem d_Cod_endOf_r_14 : decode prog_4_method_10_code 14 = .ok (.goto 9, 3) := by decide +kernel
theorem d_Cod_endOf_r_17 : decode prog_4_method_10_code 17 = .ok (.aload_n 0, 1) := by decide +kernel
theorem d_Cod_endOf_r_18 : decode prog_4_method_10_code 18 = .ok (.getfield 18, 3) := by decide +kernel
theorem d_Cod_endOf_r_21 : decode prog_4_method_10_code 21 = .ok (.iload_n 1, 1) := by decide +kernel
theorem d_Cod_endOf_r_22 : decode prog_4_method_10_code 22 = .ok (.iaload, 1) := by decide +kernel
theorem d_Cod_endOf_r_23 : decode prog_4_method_10_code 23 = .ok (.ireturn, 1) := by decide +kernel
theorem d_Cod_symbolAt_r_0 : decode prog_4_method_11_code 0 = .ok (.iload_n 1, 1) := by decide +kernel
theorem d_Cod_symbolAt_r_1 : decode prog_4_method_11_code 1 = .ok (.ifCond .lt 20, 3) := by decide +kernel
theorem d_Cod_symbolAt_r_4 : decode prog_4_method_11_code 4 = .ok (.iload_n 1, 1) := by decide +kernel
theorem d_Cod_symbolAt_r_5 : decode prog_4_method_11_code 5 = .ok (.aload_n 0, 1) := by decide +kernel
theorem d_Cod_symbolAt_r_6 : decode prog_4_method_11_code 6 = .ok (.getfield 21, 3) := by decide +kernel
theorem d_Cod_symbolAt_r_9 : decode prog_4_method_11_code 9 = .ok (.if_icmp .ge 12, 3) := by decide +kernel
theorem d_Cod_symbolAt_r_12 : decode prog_4_method_11_code 12 = .ok (.aload_n 0, 1) := by decide +kernel
theorem d_Cod_symbolAt_r_13 : decode prog_4_method_11_code 13 = .ok (.getfield 9, 3) := by decide +kernel
theorem d_Cod_symbolAt_r_16 : decode prog_4_method_11_code 16 = .ok (.iload_n 1, 1) := by decide +kernel
theorem d_Cod_symbolAt_r_17 : decode prog_4_method_11_code 17 = .ok (.iaload, 1) := by decide +kernel
theorem d_Cod_symbolAt_r_18 : decode prog_4_method_11_code 18 = .ok (.goto 4, 3) := by decide +kernel
theorem d_Cod_symbolAt_r_21 : decode prog_4_method_11_code 21 = .ok (.iconst 0, 1) := by decide +kernel
theorem d_Cod_symbolAt_r_22 : decode prog_4_method_11_code 22 = .ok (.ireturn, 1) := by decide +kernel
theorem d_Cod_addParts_r_0 : decode prog_4_method_7_code 0 = .ok (.iconst 0, 1) := by decide +kernel
theorem d_Cod_addParts_r_1 : decode prog_4_method_7_code 1 = .ok (.istore_n 2, 1) := by decide +kernel
theorem d_Cod_addParts_r_2 : decode prog_4_method_7_code 2 = .ok (.iload_n 2, 1) := by decide +kernel
theorem d_Cod_addParts_r_3 : decode prog_4_method_7_code 3 = .ok (.aload_n 1, 1) := by decide +kernel
theorem d_Cod_addParts_r_4 : decode prog_4_method_7_code 4 = .ok (.invokevirtual 39, 3) := by decide +kernel
theorem d_Cod_addParts_r_7 : decode prog_4_method_7_code 7 = .ok (.if_icmp .ge 44, 3) := by decide +kernel
theorem d_Cod_addParts_r_10 : decode prog_4_method_7_code 10 = .ok (.aload_n 1, 1) := by decide +kernel
theorem d_Cod_addParts_r_11 : decode prog_4_method_7_code 11 = .ok (.iload_n 2, 1) := by decide +kernel
theorem d_Cod_addParts_r_12 : decode prog_4_method_7_code 12 = .ok (.invokevirtual 28, 3) := by decide +kernel
theorem d_Cod_addParts_r_15 : decode prog_4_method_7_code 15 = .ok (.istore_n 3, 1) := by decide +kernel
theorem d_Cod_addParts_r_16 : decode prog_4_method_7_code 16 = .ok (.iload_n 3, 1) := by decide +kernel
theorem d_Cod_addParts_r_17 : decode prog_4_method_7_code 17 = .ok (.aload_n 1, 1) := by decide +kernel
theorem d_Cod_addParts_r_18 : decode prog_4_method_7_code 18 = .ok (.iload_n 2, 1) := by decide +kernel
theorem d_Cod_addParts_r_19 : decode prog_4_method_7_code 19 = .ok (.invokevirtual 43, 3) := by decide +kernel
theorem d_Cod_addParts_r_22 : decode prog_4_method_7_code 22 = .ok (.if_icmp .ge 19, 3) := by decide +kernel
theorem d_Cod_addParts_r_25 : decode prog_4_method_7_code 25 = .ok (.aload_n 0, 1) := by decide +kernel
theorem d_Cod_addParts_r_26 : decode prog_4_method_7_code 26 = .ok (.aload_n 1, 1) := by decide +kernel
theorem d_Cod_addParts_r_27 : decode prog_4_method_7_code 27 = .ok (.iload_n 3, 1) := by decide +kernel
theorem d_Cod_addParts_r_28 : decode prog_4_method_7_code 28 = .ok (.invokevirtual 46, 3) := by decide +kernel
theorem d_Cod_addParts_r_31 : decode prog_4_method_7_code 31 = .ok (.invokevirtual 49, 3) := by decide +kernel
theorem d_Cod_addParts_r_34 : decode prog_4_method_7_code 34 = .ok (.pop, 1) := by decide +kernel
theorem d_Cod_addParts_r_35 : decode prog_4_method_7_code 35 = .ok (.iinc 3 1, 3) := by decide +kernel
theorem d_Cod_addParts_r_38 : decode prog_4_method_7_code 38 = .ok (.goto (-22), 3) := by decide +kernel
theorem d_Cod_addParts_r_41 : decode prog_4_method_7_code 41 = .ok (.aload_n 0, 1) := by decide +kernel
theorem d_Cod_addParts_r_42 : decode prog_4_method_7_code 42 = .ok (.invokevirtual 52, 3) := by decide +kernel
theorem d_Cod_addParts_r_45 : decode prog_4_method_7_code 45 = .ok (.iinc 2 1, 3) := by decide +kernel
theorem d_Cod_addParts_r_48 : decode prog_4_method_7_code 48 = .ok (.goto (-46), 3) := by decide +kernel
theorem d_Cod_addParts_r_51 : decode prog_4_method_7_code 51 = .ok (.return_, 1) := by decide +kernel
theorem d_P_consult_0 : decode prog_1_method_3_code 0 = .ok (.aload_n 0, 1) := by decide +kernel
theorem d_P_consult_1 : decode prog_1_method_3_code 1 = .ok (.getfield 46, 3) := by decide +kernel
theorem d_P_consult_4 : decode prog_1_method_3_code 4 = .ok (.invokevirtual 54, 3) := by decide +kernel
theorem d_P_consult_7 : decode prog_1_method_3_code 7 = .ok (.aload_n 0, 1) := by decide +kernel
theorem d_P_consult_8 : decode prog_1_method_3_code 8 = .ok (.getfield 37, 3) := by decide +kernel
theorem d_P_consult_11 : decode prog_1_method_3_code 11 = .ok (.aload_n 0, 1) := by decide +kernel
theorem d_P_consult_12 : decode prog_1_method_3_code 12 = .ok (.getfield 12, 3) := by decide +kernel
theorem d_P_consult_15 : decode prog_1_method_3_code 15 = .ok (.aload_n 0, 1) := by decide +kernel
theorem d_P_consult_16 : decode prog_1_method_3_code 16 = .ok (.getfield 28, 3) := by decide +kernel
theorem d_P_consult_19 : decode prog_1_method_3_code 19 = .ok (.invokevirtual 57, 3) := by decide +kernel
theorem d_P_consult_22 : decode prog_1_method_3_code 22 = .ok (.invokevirtual 61, 3) := by decide +kernel
theorem d_P_consult_25 : decode prog_1_method_3_code 25 = .ok (.istore_n 1, 1) := by decide +kernel
theorem d_P_consult_26 : decode prog_1_method_3_code 26 = .ok (.aload_n 0, 1) := by decide +kernel
theorem d_P_consult_27 : decode prog_1_method_3_code 27 = .ok (.getfield 12, 3) := by decide +kernel
theorem d_P_consult_30 : decode prog_1_method_3_code 30 = .ok (.invokevirtual 65, 3) := by decide +kernel
theorem d_P_consult_33 : decode prog_1_method_3_code 33 = .ok (.iload_n 1, 1) := by decide +kernel
theorem d_P_consult_34 : decode prog_1_method_3_code 34 = .ok (.ifCond .le 17, 3) := by decide +kernel
theorem d_P_consult_37 : decode prog_1_method_3_code 37 = .ok (.aload_n 0, 1) := by decide +kernel
theorem d_P_consult_38 : decode prog_1_method_3_code 38 = .ok (.getfield 28, 3) := by decide +kernel
theorem d_P_consult_41 : decode prog_1_method_3_code 41 = .ok (.aload_n 0, 1) := by decide +kernel
theorem d_P_consult_42 : decode prog_1_method_3_code 42 = .ok (.getfield 37, 3) := by decide +kernel
theorem d_P_consult_45 : decode prog_1_method_3_code 45 = .ok (.invokevirtual 68, 3) := by decide +kernel
theorem d_P_consult_48 : decode prog_1_method_3_code 48 = .ok (.invokevirtual 72, 3) := by decide +kernel
theorem d_P_consult_51 : decode prog_1_method_3_code 51 = .ok (.iload_n 1, 1) := by decide +kernel
theorem d_P_consult_52 : decode prog_1_method_3_code 52 = .ok (.ireturn, 1) := by decide +kernel
theorem d_Rd_readQuestion_0 : decode prog_3_method_4_code 0 = .ok (.aload_n 0, 1) := by decide +kernel
theorem d_Rd_readQuestion_1 : decode prog_3_method_4_code 1 = .ok (.aload_n 1, 1) := by decide +kernel
theorem d_Rd_readQuestion_2 : decode prog_3_method_4_code 2 = .ok (.invokevirtual 35, 3) := by decide +kernel
theorem d_Rd_readQuestion_5 : decode prog_3_method_4_code 5 = .ok (.aload_n 0, 1) := by decide +kernel
theorem d_Rd_readQuestion_6 : decode prog_3_method_4_code 6 = .ok (.invokevirtual 59, 3) := by decide +kernel
theorem d_Rd_readQuestion_9 : decode prog_3_method_4_code 9 = .ok (.ifCond .eq 23, 3) := by decide +kernel
theorem d_Rd_readQuestion_12 : decode prog_3_method_4_code 12 = .ok (.aload_n 0, 1) := by decide +kernel
theorem d_Rd_readQuestion_13 : decode prog_3_method_4_code 13 = .ok (.invokevirtual 62, 3) := by decide +kernel
theorem d_Rd_readQuestion_16 : decode prog_3_method_4_code 16 = .ok (.ifCond .eq 16, 3) := by decide +kernel
theorem d_Rd_readQuestion_19 : decode prog_3_method_4_code 19 = .ok (.aload_n 0, 1) := by decide +kernel
theorem d_Rd_readQuestion_20 : decode prog_3_method_4_code 20 = .ok (.bipush 32, 2) := by decide +kernel
theorem d_Rd_readQuestion_22 : decode prog_3_method_4_code 22 = .ok (.invokevirtual 39, 3) := by decide +kernel
theorem d_Rd_readQuestion_25 : decode prog_3_method_4_code 25 = .ok (.ifCond .eq 7, 3) := by decide +kernel
theorem d_Rd_readQuestion_28 : decode prog_3_method_4_code 28 = .ok (.iconst 1, 1) := by decide +kernel
theorem d_Rd_readQuestion_29 : decode prog_3_method_4_code 29 = .ok (.goto 4, 3) := by decide +kernel
theorem d_Rd_readQuestion_32 : decode prog_3_method_4_code 32 = .ok (.iconst 0, 1) := by decide +kernel
theorem d_Rd_readQuestion_33 : decode prog_3_method_4_code 33 = .ok (.istore_n 2, 1) := by decide +kernel
theorem d_Rd_readQuestion_34 : decode prog_3_method_4_code 34 = .ok (.aload_n 0, 1) := by decide +kernel
theorem d_Rd_readQuestion_35 : decode prog_3_method_4_code 35 = .ok (.iload_n 2, 1) := by decide +kernel
theorem d_Rd_readQuestion_36 : decode prog_3_method_4_code 36 = .ok (.aload_n 0, 1) := by decide +kernel
theorem d_Rd_readQuestion_37 : decode prog_3_method_4_code 37 = .ok (.getfield 65, 3) := by decide +kernel
theorem d_Rd_readQuestion_40 : decode prog_3_method_4_code 40 = .ok (.invokevirtual 55, 3) := by decide +kernel
theorem d_Rd_readQuestion_43 : decode prog_3_method_4_code 43 = .ok (.ireturn, 1) := by decide +kernel
theorem d_Arr_fill_26_0 : decode prog_19_method_103_code 0 = .ok (.iconst 0, 1) := by decide +kernel
theorem d_Arr_fill_26_1 : decode prog_19_method_103_code 1 = .ok (.istore_n 2, 1) := by decide +kernel
theorem d_Arr_fill_26_2 : decode prog_19_method_103_code 2 = .ok (.aload_n 0, 1) := by decide +kernel
theorem d_Arr_fill_26_3 : decode prog_19_method_103_code 3 = .ok (.arraylength, 1) := by decide +kernel
theorem d_Arr_fill_26_4 : decode prog_19_method_103_code 4 = .ok (.istore_n 3, 1) := by decide +kernel
theorem d_Arr_fill_26_5 : decode prog_19_method_103_code 5 = .ok (.iload_n 2, 1) := by decide +kernel
theorem d_Arr_fill_26_6 : decode prog_19_method_103_code 6 = .ok (.iload_n 3, 1) := by decide +kernel
theorem d_Arr_fill_26_7 : decode prog_19_method_103_code 7 = .ok (.if_icmp .ge 13, 3) := by decide +kernel
theorem d_Arr_fill_26_10 : decode prog_19_method_103_code 10 = .ok (.aload_n 0, 1) := by decide +kernel
theorem d_Arr_fill_26_11 : decode prog_19_method_103_code 11 = .ok (.iload_n 2, 1) := by decide +kernel
theorem d_Arr_fill_26_12 : decode prog_19_method_103_code 12 = .ok (.iload_n 1, 1) := by decide +kernel
theorem d_Arr_fill_26_13 : decode prog_19_method_103_code 13 = .ok (.iastore, 1) := by decide +kernel
theorem d_Arr_fill_26_14 : decode prog_19_method_103_code 14 = .ok (.iinc 2 1, 3) := by decide +kernel
theorem d_Arr_fill_26_17 : decode prog_19_method_103_code 17 = .ok (.goto (-12), 3) := by decide +kernel
theorem d_Arr_fill_26_20 : decode prog_19_method_103_code 20 = .ok (.return_, 1) := by decide +kernel
theorem d_Cod_sizeAt_r_0 : decode prog_4_method_12_code 0 = .ok (.iload_n 1, 1) := by decide +kernel
theorem d_Cod_sizeAt_r_1 : decode prog_4_method_12_code 1 = .ok (.ifCond .lt 20, 3) := by decide +kernel
theorem d_Cod_sizeAt_r_4 : decode prog_4_method_12_code 4 = .ok (.iload_n 1, 1) := by decide +kernel
theorem d_Cod_sizeAt_r_5 : decode prog_4_method_12_code 5 = .ok (.aload_n 0, 1) := by decide +kernel
theorem d_Cod_sizeAt_r_6 : decode prog_4_method_12_code 6 = .ok (.getfield 21, 3) := by decide +kernel
theorem d_Cod_sizeAt_r_9 : decode prog_4_method_12_code 9 = .ok (.if_icmp .ge 12, 3) := by decide +kernel
theorem d_Cod_sizeAt_r_12 : decode prog_4_method_12_code 12 = .ok (.aload_n 0, 1) := by decide +kernel
theorem d_Cod_sizeAt_r_13 : decode prog_4_method_12_code 13 = .ok (.getfield 15, 3) := by decide +kernel
theorem d_Cod_sizeAt_r_16 : decode prog_4_method_12_code 16 = .ok (.iload_n 1, 1) := by decide +kernel
theorem d_Cod_sizeAt_r_17 : decode prog_4_method_12_code 17 = .ok (.iaload, 1) := by decide +kernel
theorem d_Cod_sizeAt_r_18 : decode prog_4_method_12_code 18 = .ok (.goto 4, 3) := by decide +kernel
theorem d_Cod_sizeAt_r_21 : decode prog_4_method_12_code 21 = .ok (.iconst 1, 1) := by decide +kernel
theorem d_Cod_sizeAt_r_22 : decode prog_4_method_12_code 22 = .ok (.ireturn, 1) := by decide +kernel
theorem d_Ter_sameVariable_0 : decode prog_9_method_6_code 0 = .ok (.iload_n 1, 1) := by decide +kernel
theorem d_Ter_sameVariable_1 : decode prog_9_method_6_code 1 = .ok (.bipush 8, 2) := by decide +kernel
theorem d_Ter_sameVariable_3 : decode prog_9_method_6_code 3 = .ok (.if_icmp .lt 5, 3) := by decide +kernel
theorem d_Ter_sameVariable_6 : decode prog_9_method_6_code 6 = .ok (.iconst (-1), 1) := by decide +kernel
theorem d_Ter_sameVariable_7 : decode prog_9_method_6_code 7 = .ok (.ireturn, 1) := by decide +kernel
theorem d_Ter_sameVariable_8 : decode prog_9_method_6_code 8 = .ok (.aload_n 0, 1) := by decide +kernel
theorem d_Ter_sameVariable_9 : decode prog_9_method_6_code 9 = .ok (.getfield 30, 3) := by decide +kernel
theorem d_Ter_sameVariable_12 : decode prog_9_method_6_code 12 = .ok (.iload_n 1, 1) := by decide +kernel
theorem d_Ter_sameVariable_13 : decode prog_9_method_6_code 13 = .ok (.iaload, 1) := by decide +kernel
theorem d_Ter_sameVariable_14 : decode prog_9_method_6_code 14 = .ok (.istore_n 2, 1) := by decide +kernel
theorem d_Ter_sameVariable_15 : decode prog_9_method_6_code 15 = .ok (.iload_n 2, 1) := by decide +kernel
theorem d_Ter_sameVariable_16 : decode prog_9_method_6_code 16 = .ok (.iconst (-1), 1) := by decide +kernel
theorem d_Ter_sameVariable_17 : decode prog_9_method_6_code 17 = .ok (.if_icmp .ne 13, 3) := by decide +kernel
theorem d_Ter_sameVariable_20 : decode prog_9_method_6_code 20 = .ok (.aload_n 0, 1) := by decide +kernel
theorem d_Ter_sameVariable_21 : decode prog_9_method_6_code 21 = .ok (.getfield 30, 3) := by decide +kernel
theorem d_Ter_sameVariable_24 : decode prog_9_method_6_code 24 = .ok (.iload_n 1, 1) := by decide +kernel
theorem d_Ter_sameVariable_25 : decode prog_9_method_6_code 25 = .ok (.aload_n 0, 1) := by decide +kernel
theorem d_Ter_sameVariable_26 : decode prog_9_method_6_code 26 = .ok (.getfield 33, 3) := by decide +kernel
theorem d_Ter_sameVariable_29 : decode prog_9_method_6_code 29 = .ok (.iastore, 1) := by decide +kernel
theorem d_Ter_sameVariable_30 : decode prog_9_method_6_code 30 = .ok (.iload_n 2, 1) := by decide +kernel
theorem d_Ter_sameVariable_31 : decode prog_9_method_6_code 31 = .ok (.ireturn, 1) := by decide +kernel
theorem d_Ter_copy_r_0 : decode prog_9_method_5_code 0 = .ok (.aload_n 0, 1) := by decide +kernel
theorem d_Ter_copy_r_1 : decode prog_9_method_5_code 1 = .ok (.getfield 30, 3) := by decide +kernel
theorem d_Ter_copy_r_4 : decode prog_9_method_5_code 4 = .ok (.iconst (-1), 1) := by decide +kernel
theorem d_Ter_copy_r_5 : decode prog_9_method_5_code 5 = .ok (.invokestatic 40, 3) := by decide +kernel
theorem d_Ter_copy_r_8 : decode prog_9_method_5_code 8 = .ok (.aload_n 0, 1) := by decide +kernel
theorem d_Ter_copy_r_9 : decode prog_9_method_5_code 9 = .ok (.getfield 33, 3) := by decide +kernel
theorem d_Ter_copy_r_12 : decode prog_9_method_5_code 12 = .ok (.istore_n 3, 1) := by decide +kernel
theorem d_Ter_copy_r_13 : decode prog_9_method_5_code 13 = .ok (.aload_n 1, 1) := by decide +kernel
theorem d_Ter_copy_r_14 : decode prog_9_method_5_code 14 = .ok (.iload_n 2, 1) := by decide +kernel
theorem d_Ter_copy_r_15 : decode prog_9_method_5_code 15 = .ok (.invokevirtual 46, 3) := by decide +kernel
theorem d_Ter_copy_r_18 : decode prog_9_method_5_code 18 = .ok (.istore 4, 2) := by decide +kernel
theorem d_Ter_copy_r_20 : decode prog_9_method_5_code 20 = .ok (.aload_n 1, 1) := by decide +kernel
theorem d_Ter_copy_r_21 : decode prog_9_method_5_code 21 = .ok (.iload_n 2, 1) := by decide +kernel
theorem d_Ter_copy_r_22 : decode prog_9_method_5_code 22 = .ok (.invokevirtual 52, 3) := by decide +kernel
theorem d_Ter_copy_r_25 : decode prog_9_method_5_code 25 = .ok (.istore 5, 2) := by decide +kernel
theorem d_Ter_copy_r_27 : decode prog_9_method_5_code 27 = .ok (.iload 5, 2) := by decide +kernel
theorem d_Ter_copy_r_29 : decode prog_9_method_5_code 29 = .ok (.iload 4, 2) := by decide +kernel
theorem d_Ter_copy_r_31 : decode prog_9_method_5_code 31 = .ok (.if_icmp .ge 101, 3) := by decide +kernel
theorem d_Ter_copy_r_34 : decode prog_9_method_5_code 34 = .ok (.aload_n 0, 1) := by decide +kernel
theorem d_Ter_copy_r_35 : decode prog_9_method_5_code 35 = .ok (.getfield 33, 3) := by decide +kernel
theorem d_Ter_copy_r_38 : decode prog_9_method_5_code 38 = .ok (.sipush 2440, 3) := by decide +kernel
theorem d_Ter_copy_r_41 : decode prog_9_method_5_code 41 = .ok (.if_icmp .ge 91, 3) := by decide +kernel
theorem d_Ter_copy_r_44 : decode prog_9_method_5_code 44 = .ok (.aload_n 1, 1) := by decide +kernel
theorem d_Ter_copy_r_45 : decode prog_9_method_5_code 45 = .ok (.iload 5, 2) := by decide +kernel
theorem d_Ter_copy_r_47 : decode prog_9_method_5_code 47 = .ok (.invokevirtual 55, 3) := by decide +kernel
theorem d_Ter_copy_r_50 : decode prog_9_method_5_code 50 = .ok (.istore 6, 2) := by decide +kernel
theorem d_Ter_copy_r_52 : decode prog_9_method_5_code 52 = .ok (.aload_n 0, 1) := by decide +kernel
theorem d_Ter_copy_r_53 : decode prog_9_method_5_code 53 = .ok (.getfield 11, 3) := by decide +kernel
theorem d_Ter_copy_r_56 : decode prog_9_method_5_code 56 = .ok (.aload_n 0, 1) := by decide +kernel
theorem d_Ter_copy_r_57 : decode prog_9_method_5_code 57 = .ok (.getfield 33, 3) := by decide +kernel
theorem d_Ter_copy_r_60 : decode prog_9_method_5_code 60 = .ok (.iload 6, 2) := by decide +kernel
theorem d_Ter_copy_r_62 : decode prog_9_method_5_code 62 = .ok (.ifCond .ge 7, 3) := by decide +kernel
theorem d_Ter_copy_r_65 : decode prog_9_method_5_code 65 = .ok (.iconst (-1), 1) := by decide +kernel
theorem d_Ter_copy_r_66 : decode prog_9_method_5_code 66 = .ok (.goto 5, 3) := by decide +kernel
theorem d_Ter_copy_r_69 : decode prog_9_method_5_code 69 = .ok (.iload 6, 2) := by decide +kernel
theorem d_Ter_copy_r_71 : decode prog_9_method_5_code 71 = .ok (.iastore, 1) := by decide +kernel
theorem d_Ter_copy_r_72 : decode prog_9_method_5_code 72 = .ok (.aload_n 0, 1) := by decide +kernel
theorem d_Ter_copy_r_73 : decode prog_9_method_5_code 73 = .ok (.getfield 15, 3) := by decide +kernel
theorem d_Ter_copy_r_76 : decode prog_9_method_5_code 76 = .ok (.aload_n 0, 1) := by decide +kernel
theorem d_Ter_copy_r_77 : decode prog_9_method_5_code 77 = .ok (.getfield 33, 3) := by decide +kernel
theorem d_Ter_copy_r_80 : decode prog_9_method_5_code 80 = .ok (.aload_n 1, 1) := by decide +kernel
theorem d_Ter_copy_r_81 : decode prog_9_method_5_code 81 = .ok (.iload 5, 2) := by decide +kernel
theorem d_Ter_copy_r_83 : decode prog_9_method_5_code 83 = .ok (.invokevirtual 58, 3) := by decide +kernel
theorem d_Ter_copy_r_86 : decode prog_9_method_5_code 86 = .ok (.iastore, 1) := by decide +kernel
theorem d_Ter_copy_r_87 : decode prog_9_method_5_code 87 = .ok (.aload_n 0, 1) := by decide +kernel
theorem d_Ter_copy_r_88 : decode prog_9_method_5_code 88 = .ok (.getfield 18, 3) := by decide +kernel
theorem d_Ter_copy_r_91 : decode prog_9_method_5_code 91 = .ok (.aload_n 0, 1) := by decide +kernel
theorem d_Ter_copy_r_92 : decode prog_9_method_5_code 92 = .ok (.getfield 33, 3) := by decide +kernel
theorem d_Ter_copy_r_95 : decode prog_9_method_5_code 95 = .ok (.iload 6, 2) := by decide +kernel
theorem d_Ter_copy_r_97 : decode prog_9_method_5_code 97 = .ok (.bipush (-2), 2) := by decide +kernel
theorem d_Ter_copy_r_99 : decode prog_9_method_5_code 99 = .ok (.if_icmp .gt 15, 3) := by decide +kernel
theorem d_Ter_copy_r_102 : decode prog_9_method_5_code 102 = .ok (.aload_n 0, 1) := by decide +kernel
theorem d_Ter_copy_r_103 : decode prog_9_method_5_code 103 = .ok (.bipush (-2), 2) := by decide +kernel
theorem d_Ter_copy_r_105 : decode prog_9_method_5_code 105 = .ok (.iload 6, 2) := by decide +kernel
theorem d_Ter_copy_r_107 : decode prog_9_method_5_code 107 = .ok (.isub, 1) := by decide +kernel
theorem d_Ter_copy_r_108 : decode prog_9_method_5_code 108 = .ok (.invokevirtual 61, 3) := by decide +kernel
theorem d_Ter_copy_r_111 : decode prog_9_method_5_code 111 = .ok (.goto 4, 3) := by decide +kernel
theorem d_Ter_copy_r_114 : decode prog_9_method_5_code 114 = .ok (.iconst (-1), 1) := by decide +kernel
theorem d_Ter_copy_r_115 : decode prog_9_method_5_code 115 = .ok (.iastore, 1) := by decide +kernel
theorem d_Ter_copy_r_116 : decode prog_9_method_5_code 116 = .ok (.aload_n 0, 1) := by decide +kernel
theorem d_Ter_copy_r_117 : decode prog_9_method_5_code 117 = .ok (.dup, 1) := by decide +kernel
theorem d_Ter_copy_r_118 : decode prog_9_method_5_code 118 = .ok (.getfield 33, 3) := by decide +kernel
theorem d_Ter_copy_r_121 : decode prog_9_method_5_code 121 = .ok (.iconst 1, 1) := by decide +kernel
theorem d_Ter_copy_r_122 : decode prog_9_method_5_code 122 = .ok (.iadd, 1) := by decide +kernel
theorem d_Ter_copy_r_123 : decode prog_9_method_5_code 123 = .ok (.putfield 33, 3) := by decide +kernel
theorem d_Ter_copy_r_126 : decode prog_9_method_5_code 126 = .ok (.iinc 5 1, 3) := by decide +kernel
theorem d_Ter_copy_r_129 : decode prog_9_method_5_code 129 = .ok (.goto (-102), 3) := by decide +kernel
theorem d_Ter_copy_r_132 : decode prog_9_method_5_code 132 = .ok (.iload_n 3, 1) := by decide +kernel
theorem d_Ter_copy_r_133 : decode prog_9_method_5_code 133 = .ok (.ireturn, 1) := by decide +kernel
theorem d_Ter_cellCount_0 : decode prog_9_method_2_code 0 = .ok (.aload_n 0, 1) := by decide +kernel
theorem d_Ter_cellCount_1 : decode prog_9_method_2_code 1 = .ok (.getfield 33, 3) := by decide +kernel
theorem d_Ter_cellCount_4 : decode prog_9_method_2_code 4 = .ok (.ireturn, 1) := by decide +kernel
theorem d_Ter_sizeAt_0 : decode prog_9_method_9_code 0 = .ok (.iload_n 1, 1) := by decide +kernel
theorem d_Ter_sizeAt_1 : decode prog_9_method_9_code 1 = .ok (.ifCond .lt 20, 3) := by decide +kernel
theorem d_Ter_sizeAt_4 : decode prog_9_method_9_code 4 = .ok (.iload_n 1, 1) := by decide +kernel
theorem d_Ter_sizeAt_5 : decode prog_9_method_9_code 5 = .ok (.aload_n 0, 1) := by decide +kernel
theorem d_Ter_sizeAt_6 : decode prog_9_method_9_code 6 = .ok (.getfield 33, 3) := by decide +kernel
theorem d_Ter_sizeAt_9 : decode prog_9_method_9_code 9 = .ok (.if_icmp .ge 12, 3) := by decide +kernel
theorem d_Ter_sizeAt_12 : decode prog_9_method_9_code 12 = .ok (.aload_n 0, 1) := by decide +kernel
theorem d_Ter_sizeAt_13 : decode prog_9_method_9_code 13 = .ok (.getfield 15, 3) := by decide +kernel
theorem d_Ter_sizeAt_16 : decode prog_9_method_9_code 16 = .ok (.iload_n 1, 1) := by decide +kernel
theorem d_Ter_sizeAt_17 : decode prog_9_method_9_code 17 = .ok (.iaload, 1) := by decide +kernel
theorem d_Ter_sizeAt_18 : decode prog_9_method_9_code 18 = .ok (.goto 4, 3) := by decide +kernel
theorem d_Ter_sizeAt_21 : decode prog_9_method_9_code 21 = .ok (.iconst 1, 1) := by decide +kernel
theorem d_Ter_sizeAt_22 : decode prog_9_method_9_code 22 = .ok (.ireturn, 1) := by decide +kernel
theorem d_Goa_putBefore_0 : decode prog_5_method_6_code 0 = .ok (.aload_n 0, 1) := by decide +kernel
theorem d_Goa_putBefore_1 : decode prog_5_method_6_code 1 = .ok (.getfield 21, 3) := by decide +kernel
theorem d_Goa_putBefore_4 : decode prog_5_method_6_code 4 = .ok (.istore 5, 2) := by decide +kernel
theorem d_Goa_putBefore_6 : decode prog_5_method_6_code 6 = .ok (.iconst (-1), 1) := by decide +kernel
theorem d_Goa_putBefore_7 : decode prog_5_method_6_code 7 = .ok (.istore 6, 2) := by decide +kernel
theorem d_Goa_putBefore_9 : decode prog_5_method_6_code 9 = .ok (.iload_n 2, 1) := by decide +kernel
theorem d_Goa_putBefore_10 : decode prog_5_method_6_code 10 = .ok (.istore 7, 2) := by decide +kernel
theorem d_Goa_putBefore_12 : decode prog_5_method_6_code 12 = .ok (.iconst 0, 1) := by decide +kernel
theorem d_Goa_putBefore_13 : decode prog_5_method_6_code 13 = .ok (.istore 8, 2) := by decide +kernel
theorem d_Goa_putBefore_15 : decode prog_5_method_6_code 15 = .ok (.iload 8, 2) := by decide +kernel
theorem d_Goa_putBefore_17 : decode prog_5_method_6_code 17 = .ok (.bipush 8, 2) := by decide +kernel
theorem d_Goa_putBefore_19 : decode prog_5_method_6_code 19 = .ok (.if_icmp .ge 113, 3) := by decide +kernel
theorem d_Goa_putBefore_22 : decode prog_5_method_6_code 22 = .ok (.iload 7, 2) := by decide +kernel
theorem d_Goa_putBefore_24 : decode prog_5_method_6_code 24 = .ok (.iload_n 3, 1) := by decide +kernel
theorem d_Goa_putBefore_25 : decode prog_5_method_6_code 25 = .ok (.if_icmp .ge 107, 3) := by decide +kernel
theorem d_Goa_putBefore_28 : decode prog_5_method_6_code 28 = .ok (.aload_n 0, 1) := by decide +kernel
theorem d_Goa_putBefore_29 : decode prog_5_method_6_code 29 = .ok (.getfield 25, 3) := by decide +kernel
theorem d_Goa_putBefore_32 : decode prog_5_method_6_code 32 = .ok (.sipush 488, 3) := by decide +kernel
theorem d_Goa_putBefore_35 : decode prog_5_method_6_code 35 = .ok (.if_icmp .ge 97, 3) := by decide +kernel
theorem d_Goa_putBefore_38 : decode prog_5_method_6_code 38 = .ok (.aload_n 0, 1) := by decide +kernel
theorem d_Goa_putBefore_39 : decode prog_5_method_6_code 39 = .ok (.getfield 11, 3) := by decide +kernel
theorem d_Goa_putBefore_42 : decode prog_5_method_6_code 42 = .ok (.aload_n 0, 1) := by decide +kernel
theorem d_Goa_putBefore_43 : decode prog_5_method_6_code 43 = .ok (.getfield 25, 3) := by decide +kernel
theorem d_Goa_putBefore_46 : decode prog_5_method_6_code 46 = .ok (.iload 7, 2) := by decide +kernel
theorem d_Goa_putBefore_48 : decode prog_5_method_6_code 48 = .ok (.iastore, 1) := by decide +kernel
theorem d_Goa_putBefore_49 : decode prog_5_method_6_code 49 = .ok (.aload_n 0, 1) := by decide +kernel
theorem d_Goa_putBefore_50 : decode prog_5_method_6_code 50 = .ok (.getfield 15, 3) := by decide +kernel
theorem d_Goa_putBefore_53 : decode prog_5_method_6_code 53 = .ok (.aload_n 0, 1) := by decide +kernel
theorem d_Goa_putBefore_54 : decode prog_5_method_6_code 54 = .ok (.getfield 25, 3) := by decide +kernel
theorem d_Goa_putBefore_57 : decode prog_5_method_6_code 57 = .ok (.iload 4, 2) := by decide +kernel
theorem d_Goa_putBefore_59 : decode prog_5_method_6_code 59 = .ok (.iastore, 1) := by decide +kernel
theorem d_Goa_putBefore_60 : decode prog_5_method_6_code 60 = .ok (.aload_n 0, 1) := by decide +kernel
theorem d_Goa_putBefore_61 : decode prog_5_method_6_code 61 = .ok (.getfield 18, 3) := by decide +kernel
theorem d_Goa_putBefore_64 : decode prog_5_method_6_code 64 = .ok (.aload_n 0, 1) := by decide +kernel
theorem d_Goa_putBefore_65 : decode prog_5_method_6_code 65 = .ok (.getfield 25, 3) := by decide +kernel
theorem d_Goa_putBefore_68 : decode prog_5_method_6_code 68 = .ok (.iload 5, 2) := by decide +kernel
theorem d_Goa_putBefore_70 : decode prog_5_method_6_code 70 = .ok (.iastore, 1) := by decide +kernel
theorem d_Goa_putBefore_71 : decode prog_5_method_6_code 71 = .ok (.iload 6, 2) := by decide +kernel
theorem d_Goa_putBefore_73 : decode prog_5_method_6_code 73 = .ok (.iconst (-1), 1) := by decide +kernel
theorem d_Goa_putBefore_74 : decode prog_5_method_6_code 74 = .ok (.if_icmp .ne 14, 3) := by decide +kernel
theorem d_Goa_putBefore_77 : decode prog_5_method_6_code 77 = .ok (.aload_n 0, 1) := by decide +kernel
theorem d_Goa_putBefore_78 : decode prog_5_method_6_code 78 = .ok (.aload_n 0, 1) := by decide +kernel
theorem d_Goa_putBefore_79 : decode prog_5_method_6_code 79 = .ok (.getfield 25, 3) := by decide +kernel
theorem d_Goa_putBefore_82 : decode prog_5_method_6_code 82 = .ok (.putfield 21, 3) := by decide +kernel
theorem d_Goa_putBefore_85 : decode prog_5_method_6_code 85 = .ok (.goto 14, 3) := by decide +kernel
theorem d_Goa_putBefore_88 : decode prog_5_method_6_code 88 = .ok (.aload_n 0, 1) := by decide +kernel
theorem d_Goa_putBefore_89 : decode prog_5_method_6_code 89 = .ok (.getfield 18, 3) := by decide +kernel
theorem d_Goa_putBefore_92 : decode prog_5_method_6_code 92 = .ok (.iload 6, 2) := by decide +kernel
theorem d_Goa_putBefore_94 : decode prog_5_method_6_code 94 = .ok (.aload_n 0, 1) := by decide +kernel
theorem d_Goa_putBefore_95 : decode prog_5_method_6_code 95 = .ok (.getfield 25, 3) := by decide +kernel
theorem d_Goa_putBefore_98 : decode prog_5_method_6_code 98 = .ok (.iastore, 1) := by decide +kernel
theorem d_Goa_putBefore_99 : decode prog_5_method_6_code 99 = .ok (.aload_n 0, 1) := by decide +kernel
theorem d_Goa_putBefore_100 : decode prog_5_method_6_code 100 = .ok (.getfield 25, 3) := by decide +kernel
theorem d_Goa_putBefore_103 : decode prog_5_method_6_code 103 = .ok (.istore 6, 2) := by decide +kernel
theorem d_Goa_putBefore_105 : decode prog_5_method_6_code 105 = .ok (.aload_n 0, 1) := by decide +kernel
theorem d_Goa_putBefore_106 : decode prog_5_method_6_code 106 = .ok (.dup, 1) := by decide +kernel
theorem d_Goa_putBefore_107 : decode prog_5_method_6_code 107 = .ok (.getfield 25, 3) := by decide +kernel
theorem d_Goa_putBefore_110 : decode prog_5_method_6_code 110 = .ok (.iconst 1, 1) := by decide +kernel
theorem d_Goa_putBefore_111 : decode prog_5_method_6_code 111 = .ok (.iadd, 1) := by decide +kernel
theorem d_Goa_putBefore_112 : decode prog_5_method_6_code 112 = .ok (.putfield 25, 3) := by decide +kernel
theorem d_Goa_putBefore_115 : decode prog_5_method_6_code 115 = .ok (.iload 7, 2) := by decide +kernel
theorem d_Goa_putBefore_117 : decode prog_5_method_6_code 117 = .ok (.aload_n 1, 1) := by decide +kernel
theorem d_Goa_putBefore_118 : decode prog_5_method_6_code 118 = .ok (.iload 7, 2) := by decide +kernel
theorem d_Goa_putBefore_120 : decode prog_5_method_6_code 120 = .ok (.invokevirtual 32, 3) := by decide +kernel
theorem d_Goa_putBefore_123 : decode prog_5_method_6_code 123 = .ok (.iadd, 1) := by decide +kernel
theorem d_Goa_putBefore_124 : decode prog_5_method_6_code 124 = .ok (.istore 7, 2) := by decide +kernel
theorem d_Goa_putBefore_126 : decode prog_5_method_6_code 126 = .ok (.iinc 8 1, 3) := by decide +kernel
theorem d_Goa_putBefore_129 : decode prog_5_method_6_code 129 = .ok (.goto (-114), 3) := by decide +kernel
theorem d_Goa_putBefore_132 : decode prog_5_method_6_code 132 = .ok (.return_, 1) := by decide +kernel
theorem d_Ter_variableCell_0 : decode prog_9_method_7_code 0 = .ok (.iload_n 1, 1) := by decide +kernel
theorem d_Ter_variableCell_1 : decode prog_9_method_7_code 1 = .ok (.ifCond .lt 28, 3) := by decide +kernel
theorem d_Ter_variableCell_4 : decode prog_9_method_7_code 4 = .ok (.iload_n 1, 1) := by decide +kernel
theorem d_Ter_variableCell_5 : decode prog_9_method_7_code 5 = .ok (.bipush 8, 2) := by decide +kernel
theorem d_Ter_variableCell_7 : decode prog_9_method_7_code 7 = .ok (.if_icmp .ge 22, 3) := by decide +kernel
theorem d_Ter_variableCell_10 : decode prog_9_method_7_code 10 = .ok (.aload_n 0, 1) := by decide +kernel
theorem d_Ter_variableCell_11 : decode prog_9_method_7_code 11 = .ok (.getfield 30, 3) := by decide +kernel
theorem d_Ter_variableCell_14 : decode prog_9_method_7_code 14 = .ok (.iload_n 1, 1) := by decide +kernel
theorem d_Ter_variableCell_15 : decode prog_9_method_7_code 15 = .ok (.iaload, 1) := by decide +kernel
theorem d_Ter_variableCell_16 : decode prog_9_method_7_code 16 = .ok (.iconst (-1), 1) := by decide +kernel
theorem d_Ter_variableCell_17 : decode prog_9_method_7_code 17 = .ok (.if_icmp .eq 12, 3) := by decide +kernel
theorem d_Ter_variableCell_20 : decode prog_9_method_7_code 20 = .ok (.aload_n 0, 1) := by decide +kernel
theorem d_Ter_variableCell_21 : decode prog_9_method_7_code 21 = .ok (.getfield 30, 3) := by decide +kernel
theorem d_Ter_variableCell_24 : decode prog_9_method_7_code 24 = .ok (.iload_n 1, 1) := by decide +kernel
theorem d_Ter_variableCell_25 : decode prog_9_method_7_code 25 = .ok (.iaload, 1) := by decide +kernel
theorem d_Ter_variableCell_26 : decode prog_9_method_7_code 26 = .ok (.goto 4, 3) := by decide +kernel
theorem d_Ter_variableCell_29 : decode prog_9_method_7_code 29 = .ok (.iconst 0, 1) := by decide +kernel
theorem d_Ter_variableCell_30 : decode prog_9_method_7_code 30 = .ok (.ireturn, 1) := by decide +kernel
theorem d_Sea_begin_0 : decode prog_7_method_3_code 0 = .ok (.aload_n 0, 1) := by decide +kernel
theorem d_Sea_begin_1 : decode prog_7_method_3_code 1 = .ok (.getfield 12, 3) := by decide +kernel
theorem d_Sea_begin_4 : decode prog_7_method_3_code 4 = .ok (.aload_n 1, 1) := by decide +kernel
theorem d_Sea_begin_5 : decode prog_7_method_3_code 5 = .ok (.iconst 0, 1) := by decide +kernel
theorem d_Sea_begin_6 : decode prog_7_method_3_code 6 = .ok (.invokevirtual 82, 3) := by decide +kernel
theorem d_Sea_begin_9 : decode prog_7_method_3_code 9 = .ok (.pop, 1) := by decide +kernel
theorem d_Sea_begin_10 : decode prog_7_method_3_code 10 = .ok (.aload_n 0, 1) := by decide +kernel
theorem d_Sea_begin_11 : decode prog_7_method_3_code 11 = .ok (.getfield 21, 3) := by decide +kernel
theorem d_Sea_begin_14 : decode prog_7_method_3_code 14 = .ok (.aload_n 0, 1) := by decide +kernel
theorem d_Sea_begin_15 : decode prog_7_method_3_code 15 = .ok (.getfield 12, 3) := by decide +kernel
theorem d_Sea_begin_18 : decode prog_7_method_3_code 18 = .ok (.iconst 0, 1) := by decide +kernel
theorem d_Sea_begin_19 : decode prog_7_method_3_code 19 = .ok (.aload_n 0, 1) := by decide +kernel
theorem d_Sea_begin_20 : decode prog_7_method_3_code 20 = .ok (.getfield 12, 3) := by decide +kernel
theorem d_Sea_begin_23 : decode prog_7_method_3_code 23 = .ok (.invokevirtual 86, 3) := by decide +kernel
theorem d_Sea_begin_26 : decode prog_7_method_3_code 26 = .ok (.iconst 0, 1) := by decide +kernel
theorem d_Sea_begin_27 : decode prog_7_method_3_code 27 = .ok (.invokevirtual 90, 3) := by decide +kernel
theorem d_Sea_begin_30 : decode prog_7_method_3_code 30 = .ok (.aload_n 0, 1) := by decide +kernel
theorem d_Sea_begin_31 : decode prog_7_method_3_code 31 = .ok (.iload_n 2, 1) := by decide +kernel
theorem d_Sea_begin_32 : decode prog_7_method_3_code 32 = .ok (.bipush 8, 2) := by decide +kernel
theorem d_Sea_begin_34 : decode prog_7_method_3_code 34 = .ok (.invokestatic 94, 3) := by decide +kernel
theorem d_Sea_begin_37 : decode prog_7_method_3_code 37 = .ok (.putfield 67, 3) := by decide +kernel
theorem d_Sea_begin_40 : decode prog_7_method_3_code 40 = .ok (.iconst 0, 1) := by decide +kernel
theorem d_Sea_begin_41 : decode prog_7_method_3_code 41 = .ok (.istore_n 3, 1) := by decide +kernel
theorem d_Sea_begin_42 : decode prog_7_method_3_code 42 = .ok (.iload_n 3, 1) := by decide +kernel
theorem d_Sea_begin_43 : decode prog_7_method_3_code 43 = .ok (.aload_n 0, 1) := by decide +kernel
theorem d_Sea_begin_44 : decode prog_7_method_3_code 44 = .ok (.getfield 67, 3) := by decide +kernel
theorem d_Sea_begin_47 : decode prog_7_method_3_code 47 = .ok (.if_icmp .ge 23, 3) := by decide +kernel
theorem d_Sea_begin_50 : decode prog_7_method_3_code 50 = .ok (.aload_n 0, 1) := by decide +kernel
theorem d_Sea_begin_51 : decode prog_7_method_3_code 51 = .ok (.getfield 32, 3) := by decide +kernel
theorem d_Sea_begin_54 : decode prog_7_method_3_code 54 = .ok (.iload_n 3, 1) := by decide +kernel
theorem d_Sea_begin_55 : decode prog_7_method_3_code 55 = .ok (.aload_n 0, 1) := by decide +kernel
theorem d_Sea_begin_56 : decode prog_7_method_3_code 56 = .ok (.getfield 12, 3) := by decide +kernel
theorem d_Sea_begin_59 : decode prog_7_method_3_code 59 = .ok (.iload_n 3, 1) := by decide +kernel
theorem d_Sea_begin_60 : decode prog_7_method_3_code 60 = .ok (.invokevirtual 100, 3) := by decide +kernel
theorem d_Sea_begin_63 : decode prog_7_method_3_code 63 = .ok (.iastore, 1) := by decide +kernel
theorem d_Sea_begin_64 : decode prog_7_method_3_code 64 = .ok (.iinc 3 1, 3) := by decide +kernel
theorem d_Sea_begin_67 : decode prog_7_method_3_code 67 = .ok (.goto (-25), 3) := by decide +kernel
theorem d_Sea_begin_70 : decode prog_7_method_3_code 70 = .ok (.aload_n 0, 1) := by decide +kernel
theorem d_Sea_begin_71 : decode prog_7_method_3_code 71 = .ok (.iconst 2, 1) := by decide +kernel
theorem d_Sea_begin_72 : decode prog_7_method_3_code 72 = .ok (.putfield 36, 3) := by decide +kernel
theorem d_Sea_begin_75 : decode prog_7_method_3_code 75 = .ok (.return_, 1) := by decide +kernel
theorem d_P_ask_0 : decode prog_1_method_4_code 0 = .ok (.aload_n 0, 1) := by decide +kernel
theorem d_P_ask_1 : decode prog_1_method_4_code 1 = .ok (.getfield 46, 3) := by decide +kernel
theorem d_P_ask_4 : decode prog_1_method_4_code 4 = .ok (.invokevirtual 54, 3) := by decide +kernel
theorem d_P_ask_7 : decode prog_1_method_4_code 7 = .ok (.aload_n 0, 1) := by decide +kernel
theorem d_P_ask_8 : decode prog_1_method_4_code 8 = .ok (.getfield 37, 3) := by decide +kernel
theorem d_P_ask_11 : decode prog_1_method_4_code 11 = .ok (.aload_n 0, 1) := by decide +kernel
theorem d_P_ask_12 : decode prog_1_method_4_code 12 = .ok (.getfield 12, 3) := by decide +kernel
theorem d_P_ask_15 : decode prog_1_method_4_code 15 = .ok (.invokevirtual 76, 3) := by decide +kernel
theorem d_P_ask_18 : decode prog_1_method_4_code 18 = .ok (.istore_n 1, 1) := by decide +kernel
theorem d_P_ask_19 : decode prog_1_method_4_code 19 = .ok (.aload_n 0, 1) := by decide +kernel
theorem d_P_ask_20 : decode prog_1_method_4_code 20 = .ok (.getfield 12, 3) := by decide +kernel
theorem d_P_ask_23 : decode prog_1_method_4_code 23 = .ok (.invokevirtual 65, 3) := by decide +kernel
theorem d_P_ask_26 : decode prog_1_method_4_code 26 = .ok (.iload_n 1, 1) := by decide +kernel
theorem d_P_ask_27 : decode prog_1_method_4_code 27 = .ok (.ifCond .lt 18, 3) := by decide +kernel
theorem d_P_ask_30 : decode prog_1_method_4_code 30 = .ok (.aload_n 0, 1) := by decide +kernel
theorem d_P_ask_31 : decode prog_1_method_4_code 31 = .ok (.getfield 46, 3) := by decide +kernel
theorem d_P_ask_34 : decode prog_1_method_4_code 34 = .ok (.aload_n 0, 1) := by decide +kernel
theorem d_P_ask_35 : decode prog_1_method_4_code 35 = .ok (.getfield 37, 3) := by decide +kernel
theorem d_P_ask_38 : decode prog_1_method_4_code 38 = .ok (.invokevirtual 68, 3) := by decide +kernel
theorem d_P_ask_41 : decode prog_1_method_4_code 41 = .ok (.iload_n 1, 1) := by decide +kernel
theorem d_P_ask_42 : decode prog_1_method_4_code 42 = .ok (.invokevirtual 80, 3) := by decide +kernel
theorem d_P_ask_45 : decode prog_1_method_4_code 45 = .ok (.iload_n 1, 1) := by decide +kernel
theorem d_P_ask_46 : decode prog_1_method_4_code 46 = .ok (.ireturn, 1) := by decide +kernel
theorem d_Cho_count_0 : decode prog_2_method_2_code 0 = .ok (.aload_n 0, 1) := by decide +kernel
theorem d_Cho_count_1 : decode prog_2_method_2_code 1 = .ok (.getfield 30, 3) := by decide +kernel
theorem d_Cho_count_4 : decode prog_2_method_2_code 4 = .ok (.ireturn, 1) := by decide +kernel
theorem d_Cho_goBack_0 : decode prog_2_method_5_code 0 = .ok (.aload_n 0, 1) := by decide +kernel
theorem d_Cho_goBack_1 : decode prog_2_method_5_code 1 = .ok (.getfield 30, 3) := by decide +kernel
theorem d_Cho_goBack_4 : decode prog_2_method_5_code 4 = .ok (.iconst 1, 1) := by decide +kernel
theorem d_Cho_goBack_5 : decode prog_2_method_5_code 5 = .ok (.isub, 1) := by decide +kernel
theorem d_Cho_goBack_6 : decode prog_2_method_5_code 6 = .ok (.iconst 0, 1) := by decide +kernel
theorem d_Cho_goBack_7 : decode prog_2_method_5_code 7 = .ok (.invokestatic 43, 3) := by decide +kernel
theorem d_Cho_goBack_10 : decode prog_2_method_5_code 10 = .ok (.istore_n 3, 1) := by decide +kernel
theorem d_Cho_goBack_11 : decode prog_2_method_5_code 11 = .ok (.aload_n 1, 1) := by decide +kernel
theorem d_Cho_goBack_12 : decode prog_2_method_5_code 12 = .ok (.aload_n 0, 1) := by decide +kernel
theorem d_Cho_goBack_13 : decode prog_2_method_5_code 13 = .ok (.getfield 9, 3) := by decide +kernel
theorem d_Cho_goBack_16 : decode prog_2_method_5_code 16 = .ok (.iload_n 3, 1) := by decide +kernel
theorem d_Cho_goBack_17 : decode prog_2_method_5_code 17 = .ok (.iaload, 1) := by decide +kernel
theorem d_Cho_goBack_18 : decode prog_2_method_5_code 18 = .ok (.aload_n 0, 1) := by decide +kernel
theorem d_Cho_goBack_19 : decode prog_2_method_5_code 19 = .ok (.getfield 15, 3) := by decide +kernel
theorem d_Cho_goBack_22 : decode prog_2_method_5_code 22 = .ok (.iload_n 3, 1) := by decide +kernel
theorem d_Cho_goBack_23 : decode prog_2_method_5_code 23 = .ok (.iaload, 1) := by decide +kernel
theorem d_Cho_goBack_24 : decode prog_2_method_5_code 24 = .ok (.invokevirtual 52, 3) := by decide +kernel
theorem d_Cho_goBack_27 : decode prog_2_method_5_code 27 = .ok (.aload_n 2, 1) := by decide +kernel
theorem d_Cho_goBack_28 : decode prog_2_method_5_code 28 = .ok (.aload_n 0, 1) := by decide +kernel
theorem d_Cho_goBack_29 : decode prog_2_method_5_code 29 = .ok (.getfield 18, 3) := by decide +kernel
theorem d_Cho_goBack_32 : decode prog_2_method_5_code 32 = .ok (.iload_n 3, 1) := by decide +kernel
theorem d_Cho_goBack_33 : decode prog_2_method_5_code 33 = .ok (.iaload, 1) := by decide +kernel
theorem d_Cho_goBack_34 : decode prog_2_method_5_code 34 = .ok (.aload_n 0, 1) := by decide +kernel
theorem d_Cho_goBack_35 : decode prog_2_method_5_code 35 = .ok (.getfield 21, 3) := by decide +kernel
theorem d_Cho_goBack_38 : decode prog_2_method_5_code 38 = .ok (.iload_n 3, 1) := by decide +kernel
theorem d_Cho_goBack_39 : decode prog_2_method_5_code 39 = .ok (.iaload, 1) := by decide +kernel
theorem d_Cho_goBack_40 : decode prog_2_method_5_code 40 = .ok (.invokevirtual 58, 3) := by decide +kernel
theorem d_Cho_goBack_43 : decode prog_2_method_5_code 43 = .ok (.aload_n 0, 1) := by decide +kernel
theorem d_Cho_goBack_44 : decode prog_2_method_5_code 44 = .ok (.getfield 24, 3) := by decide +kernel
theorem d_Cho_goBack_47 : decode prog_2_method_5_code 47 = .ok (.iload_n 3, 1) := by decide +kernel
theorem d_Cho_goBack_48 : decode prog_2_method_5_code 48 = .ok (.iaload, 1) := by decide +kernel
theorem d_Cho_goBack_49 : decode prog_2_method_5_code 49 = .ok (.ireturn, 1) := by decide +kernel
theorem d_Goa_first_0 : decode prog_5_method_2_code 0 = .ok (.aload_n 0, 1) := by decide +kernel
theorem d_Goa_first_1 : decode prog_5_method_2_code 1 = .ok (.getfield 21, 3) := by decide +kernel
theorem d_Goa_first_4 : decode prog_5_method_2_code 4 = .ok (.ireturn, 1) := by decide +kernel
theorem d_Goa_termOf_0 : decode prog_5_method_7_code 0 = .ok (.iload_n 1, 1) := by decide +kernel
theorem d_Goa_termOf_1 : decode prog_5_method_7_code 1 = .ok (.ifCond .lt 20, 3) := by decide +kernel
theorem d_Goa_termOf_4 : decode prog_5_method_7_code 4 = .ok (.iload_n 1, 1) := by decide +kernel
theorem d_Goa_termOf_5 : decode prog_5_method_7_code 5 = .ok (.aload_n 0, 1) := by decide +kernel
theorem d_Goa_termOf_6 : decode prog_5_method_7_code 6 = .ok (.getfield 25, 3) := by decide +kernel
theorem d_Goa_termOf_9 : decode prog_5_method_7_code 9 = .ok (.if_icmp .ge 12, 3) := by decide +kernel
theorem d_Goa_termOf_12 : decode prog_5_method_7_code 12 = .ok (.aload_n 0, 1) := by decide +kernel
theorem d_Goa_termOf_13 : decode prog_5_method_7_code 13 = .ok (.getfield 11, 3) := by decide +kernel
theorem d_Goa_termOf_16 : decode prog_5_method_7_code 16 = .ok (.iload_n 1, 1) := by decide +kernel
theorem d_Goa_termOf_17 : decode prog_5_method_7_code 17 = .ok (.iaload, 1) := by decide +kernel
theorem d_Goa_termOf_18 : decode prog_5_method_7_code 18 = .ok (.goto 4, 3) := by decide +kernel
theorem d_Goa_termOf_21 : decode prog_5_method_7_code 21 = .ok (.iconst 0, 1) := by decide +kernel
theorem d_Goa_termOf_22 : decode prog_5_method_7_code 22 = .ok (.ireturn, 1) := by decide +kernel
theorem d_Goa_after_0 : decode prog_5_method_9_code 0 = .ok (.iload_n 1, 1) := by decide +kernel
theorem d_Goa_after_1 : decode prog_5_method_9_code 1 = .ok (.ifCond .lt 20, 3) := by decide +kernel
theorem d_Goa_after_4 : decode prog_5_method_9_code 4 = .ok (.iload_n 1, 1) := by decide +kernel
theorem d_Goa_after_5 : decode prog_5_method_9_code 5 = .ok (.aload_n 0, 1) := by decide +kernel
theorem d_Goa_after_6 : decode prog_5_method_9_code 6 = .ok (.getfield 25, 3) := by decide +kernel
theorem d_Goa_after_9 : decode prog_5_method_9_code 9 = .ok (.if_icmp .ge 12, 3) := by decide +kernel
theorem d_Goa_after_12 : decode prog_5_method_9_code 12 = .ok (.aload_n 0, 1) := by decide +kernel
theorem d_Goa_after_13 : decode prog_5_method_9_code 13 = .ok (.getfield 18, 3) := by decide +kernel
theorem d_Goa_after_16 : decode prog_5_method_9_code 16 = .ok (.iload_n 1, 1) := by decide +kernel
theorem d_Goa_after_17 : decode prog_5_method_9_code 17 = .ok (.iaload, 1) := by decide +kernel
theorem d_Goa_after_18 : decode prog_5_method_9_code 18 = .ok (.goto 4, 3) := by decide +kernel
theorem d_Goa_after_21 : decode prog_5_method_9_code 21 = .ok (.iconst (-1), 1) := by decide +kernel
theorem d_Goa_after_22 : decode prog_5_method_9_code 22 = .ok (.ireturn, 1) := by decide +kernel
theorem d_Goa_takeFirst_0 : decode prog_5_method_5_code 0 = .ok (.aload_n 0, 1) := by decide +kernel
theorem d_Goa_takeFirst_1 : decode prog_5_method_5_code 1 = .ok (.aload_n 0, 1) := by decide +kernel
theorem d_Goa_takeFirst_2 : decode prog_5_method_5_code 2 = .ok (.aload_n 0, 1) := by decide +kernel
theorem d_Goa_takeFirst_3 : decode prog_5_method_5_code 3 = .ok (.getfield 21, 3) := by decide +kernel
theorem d_Goa_takeFirst_6 : decode prog_5_method_5_code 6 = .ok (.invokevirtual 28, 3) := by decide +kernel
theorem d_Goa_takeFirst_9 : decode prog_5_method_5_code 9 = .ok (.putfield 21, 3) := by decide +kernel
theorem d_Goa_takeFirst_12 : decode prog_5_method_5_code 12 = .ok (.return_, 1) := by decide +kernel
theorem d_Cho_firstOf_0 : decode prog_2_method_7_code 0 = .ok (.iconst 0, 1) := by decide +kernel
theorem d_Cho_firstOf_1 : decode prog_2_method_7_code 1 = .ok (.istore_n 1, 1) := by decide +kernel
theorem d_Cho_firstOf_2 : decode prog_2_method_7_code 2 = .ok (.iload_n 1, 1) := by decide +kernel
theorem d_Cho_firstOf_3 : decode prog_2_method_7_code 3 = .ok (.bipush 23, 2) := by decide +kernel
theorem d_Cho_firstOf_5 : decode prog_2_method_7_code 5 = .ok (.if_icmp .ge 17, 3) := by decide +kernel
theorem d_Cho_firstOf_8 : decode prog_2_method_7_code 8 = .ok (.iload_n 0, 1) := by decide +kernel
theorem d_Cho_firstOf_9 : decode prog_2_method_7_code 9 = .ok (.iload_n 1, 1) := by decide +kernel
theorem d_Cho_firstOf_10 : decode prog_2_method_7_code 10 = .ok (.ishr, 1) := by decide +kernel
theorem d_Cho_firstOf_11 : decode prog_2_method_7_code 11 = .ok (.iconst 1, 1) := by decide +kernel
theorem d_Cho_firstOf_12 : decode prog_2_method_7_code 12 = .ok (.iand, 1) := by decide +kernel
theorem d_Cho_firstOf_13 : decode prog_2_method_7_code 13 = .ok (.ifCond .ne 9, 3) := by decide +kernel
theorem d_Cho_firstOf_16 : decode prog_2_method_7_code 16 = .ok (.iinc 1 1, 3) := by decide +kernel
theorem d_Cho_firstOf_19 : decode prog_2_method_7_code 19 = .ok (.goto (-17), 3) := by decide +kernel
theorem d_Cho_firstOf_22 : decode prog_2_method_7_code 22 = .ok (.iload_n 1, 1) := by decide +kernel
theorem d_Cho_firstOf_23 : decode prog_2_method_7_code 23 = .ok (.ireturn, 1) := by decide +kernel
theorem d_Cho_withoutFirst_0 : decode prog_2_method_8_code 0 = .ok (.iload_n 0, 1) := by decide +kernel
theorem d_Cho_withoutFirst_1 : decode prog_2_method_8_code 1 = .ok (.iload_n 0, 1) := by decide +kernel
theorem d_Cho_withoutFirst_2 : decode prog_2_method_8_code 2 = .ok (.iconst 1, 1) := by decide +kernel
theorem d_Cho_withoutFirst_3 : decode prog_2_method_8_code 3 = .ok (.isub, 1) := by decide +kernel
theorem d_Cho_withoutFirst_4 : decode prog_2_method_8_code 4 = .ok (.iand, 1) := by decide +kernel
theorem d_Cho_withoutFirst_5 : decode prog_2_method_8_code 5 = .ok (.ireturn, 1) := by decide +kernel
theorem d_Cho_takeCandidate_0 : decode prog_2_method_6_code 0 = .ok (.aload_n 0, 1) := by decide +kernel
theorem d_Cho_takeCandidate_1 : decode prog_2_method_6_code 1 = .ok (.getfield 30, 3) := by decide +kernel
theorem d_Cho_takeCandidate_4 : decode prog_2_method_6_code 4 = .ok (.iconst 1, 1) := by decide +kernel
theorem d_Cho_takeCandidate_5 : decode prog_2_method_6_code 5 = .ok (.isub, 1) := by decide +kernel
theorem d_Cho_takeCandidate_6 : decode prog_2_method_6_code 6 = .ok (.iconst 0, 1) := by decide +kernel
theorem d_Cho_takeCandidate_7 : decode prog_2_method_6_code 7 = .ok (.invokestatic 43, 3) := by decide +kernel
theorem d_Cho_takeCandidate_10 : decode prog_2_method_6_code 10 = .ok (.istore_n 1, 1) := by decide +kernel
theorem d_Cho_takeCandidate_11 : decode prog_2_method_6_code 11 = .ok (.aload_n 0, 1) := by decide +kernel
theorem d_Cho_takeCandidate_12 : decode prog_2_method_6_code 12 = .ok (.getfield 27, 3) := by decide +kernel
theorem d_Cho_takeCandidate_15 : decode prog_2_method_6_code 15 = .ok (.iload_n 1, 1) := by decide +kernel
theorem d_Cho_takeCandidate_16 : decode prog_2_method_6_code 16 = .ok (.iaload, 1) := by decide +kernel
theorem d_Cho_takeCandidate_17 : decode prog_2_method_6_code 17 = .ok (.invokestatic 59, 3) := by decide +kernel
theorem d_Cho_takeCandidate_20 : decode prog_2_method_6_code 20 = .ok (.istore_n 2, 1) := by decide +kernel
theorem d_Cho_takeCandidate_21 : decode prog_2_method_6_code 21 = .ok (.aload_n 0, 1) := by decide +kernel
theorem d_Cho_takeCandidate_22 : decode prog_2_method_6_code 22 = .ok (.getfield 27, 3) := by decide +kernel
theorem d_Cho_takeCandidate_25 : decode prog_2_method_6_code 25 = .ok (.iload_n 1, 1) := by decide +kernel
theorem d_Cho_takeCandidate_26 : decode prog_2_method_6_code 26 = .ok (.aload_n 0, 1) := by decide +kernel
theorem d_Cho_takeCandidate_27 : decode prog_2_method_6_code 27 = .ok (.getfield 27, 3) := by decide +kernel
theorem d_Cho_takeCandidate_30 : decode prog_2_method_6_code 30 = .ok (.iload_n 1, 1) := by decide +kernel
theorem d_Cho_takeCandidate_31 : decode prog_2_method_6_code 31 = .ok (.iaload, 1) := by decide +kernel
theorem d_Cho_takeCandidate_32 : decode prog_2_method_6_code 32 = .ok (.invokestatic 63, 3) := by decide +kernel
theorem d_Cho_takeCandidate_35 : decode prog_2_method_6_code 35 = .ok (.iastore, 1) := by decide +kernel
theorem d_Cho_takeCandidate_36 : decode prog_2_method_6_code 36 = .ok (.aload_n 0, 1) := by decide +kernel
theorem d_Cho_takeCandidate_37 : decode prog_2_method_6_code 37 = .ok (.getfield 27, 3) := by decide +kernel
theorem d_Cho_takeCandidate_40 : decode prog_2_method_6_code 40 = .ok (.iload_n 1, 1) := by decide +kernel
theorem d_Cho_takeCandidate_41 : decode prog_2_method_6_code 41 = .ok (.iaload, 1) := by decide +kernel
theorem d_Cho_takeCandidate_42 : decode prog_2_method_6_code 42 = .ok (.ifCond .ne 8, 3) := by decide +kernel
theorem d_Cho_takeCandidate_45 : decode prog_2_method_6_code 45 = .ok (.aload_n 0, 1) := by decide +kernel
theorem d_Cho_takeCandidate_46 : decode prog_2_method_6_code 46 = .ok (.iload_n 1, 1) := by decide +kernel
theorem d_Cho_takeCandidate_47 : decode prog_2_method_6_code 47 = .ok (.putfield 30, 3) := by decide +kernel
theorem d_Cho_takeCandidate_50 : decode prog_2_method_6_code 50 = .ok (.iload_n 2, 1) := by decide +kernel
theorem d_Cho_takeCandidate_51 : decode prog_2_method_6_code 51 = .ok (.ireturn, 1) := by decide +kernel
theorem d_Sea_takeChoice_0 : decode prog_7_method_6_code 0 = .ok (.aload_n 0, 1) := by decide +kernel
theorem d_Sea_takeChoice_1 : decode prog_7_method_6_code 1 = .ok (.iconst 0, 1) := by decide +kernel
theorem d_Sea_takeChoice_2 : decode prog_7_method_6_code 2 = .ok (.putfield 57, 3) := by decide +kernel
theorem d_Sea_takeChoice_5 : decode prog_7_method_6_code 5 = .ok (.aload_n 0, 1) := by decide +kernel
theorem d_Sea_takeChoice_6 : decode prog_7_method_6_code 6 = .ok (.aload_n 0, 1) := by decide +kernel
theorem d_Sea_takeChoice_7 : decode prog_7_method_6_code 7 = .ok (.getfield 28, 3) := by decide +kernel
theorem d_Sea_takeChoice_10 : decode prog_7_method_6_code 10 = .ok (.aload_n 0, 1) := by decide +kernel
theorem d_Sea_takeChoice_11 : decode prog_7_method_6_code 11 = .ok (.getfield 21, 3) := by decide +kernel
theorem d_Sea_takeChoice_14 : decode prog_7_method_6_code 14 = .ok (.aload_n 0, 1) := by decide +kernel
theorem d_Sea_takeChoice_15 : decode prog_7_method_6_code 15 = .ok (.getfield 12, 3) := by decide +kernel
theorem d_Sea_takeChoice_18 : decode prog_7_method_6_code 18 = .ok (.invokevirtual 122, 3) := by decide +kernel
theorem d_Sea_takeChoice_21 : decode prog_7_method_6_code 21 = .ok (.putfield 61, 3) := by decide +kernel
theorem d_Sea_takeChoice_24 : decode prog_7_method_6_code 24 = .ok (.aload_n 0, 1) := by decide +kernel
theorem d_Sea_takeChoice_25 : decode prog_7_method_6_code 25 = .ok (.aload_n 0, 1) := by decide +kernel
theorem d_Sea_takeChoice_26 : decode prog_7_method_6_code 26 = .ok (.getfield 21, 3) := by decide +kernel
theorem d_Sea_takeChoice_29 : decode prog_7_method_6_code 29 = .ok (.aload_n 0, 1) := by decide +kernel
theorem d_Sea_takeChoice_30 : decode prog_7_method_6_code 30 = .ok (.getfield 21, 3) := by decide +kernel
theorem d_Sea_takeChoice_33 : decode prog_7_method_6_code 33 = .ok (.invokevirtual 119, 3) := by decide +kernel
theorem d_Sea_takeChoice_36 : decode prog_7_method_6_code 36 = .ok (.invokevirtual 125, 3) := by decide +kernel
theorem d_Sea_takeChoice_39 : decode prog_7_method_6_code 39 = .ok (.putfield 128, 3) := by decide +kernel
theorem d_Sea_takeChoice_42 : decode prog_7_method_6_code 42 = .ok (.aload_n 0, 1) := by decide +kernel
theorem d_Sea_takeChoice_43 : decode prog_7_method_6_code 43 = .ok (.getfield 21, 3) := by decide +kernel
theorem d_Sea_takeChoice_46 : decode prog_7_method_6_code 46 = .ok (.invokevirtual 131, 3) := by decide +kernel
theorem d_Sea_takeChoice_49 : decode prog_7_method_6_code 49 = .ok (.aload_n 0, 1) := by decide +kernel
theorem d_Sea_takeChoice_50 : decode prog_7_method_6_code 50 = .ok (.aload_n 0, 1) := by decide +kernel
theorem d_Sea_takeChoice_51 : decode prog_7_method_6_code 51 = .ok (.getfield 28, 3) := by decide +kernel
theorem d_Sea_takeChoice_54 : decode prog_7_method_6_code 54 = .ok (.invokevirtual 104, 3) := by decide +kernel
theorem d_Sea_takeChoice_57 : decode prog_7_method_6_code 57 = .ok (.iconst 1, 1) := by decide +kernel
theorem d_Sea_takeChoice_58 : decode prog_7_method_6_code 58 = .ok (.isub, 1) := by decide +kernel
theorem d_Sea_takeChoice_59 : decode prog_7_method_6_code 59 = .ok (.putfield 134, 3) := by decide +kernel
theorem d_Sea_takeChoice_62 : decode prog_7_method_6_code 62 = .ok (.aload_n 0, 1) := by decide +kernel
theorem d_Sea_takeChoice_63 : decode prog_7_method_6_code 63 = .ok (.getfield 28, 3) := by decide +kernel
theorem d_Sea_takeChoice_66 : decode prog_7_method_6_code 66 = .ok (.invokevirtual 137, 3) := by decide +kernel
theorem d_Sea_takeChoice_69 : decode prog_7_method_6_code 69 = .ok (.ireturn, 1) := by decide +kernel
theorem d_Ter_push_0 : decode prog_9_method_21_code 0 = .ok (.aload_n 0, 1) := by decide +kernel
theorem d_Ter_push_1 : decode prog_9_method_21_code 1 = .ok (.getfield 68, 3) := by decide +kernel
theorem d_Ter_push_4 : decode prog_9_method_21_code 4 = .ok (.sipush 512, 3) := by decide +kernel
theorem d_Ter_push_7 : decode prog_9_method_21_code 7 = .ok (.if_icmp .ge 23, 3) := by decide +kernel
theorem d_Ter_push_10 : decode prog_9_method_21_code 10 = .ok (.aload_n 0, 1) := by decide +kernel
theorem d_Ter_push_11 : decode prog_9_method_21_code 11 = .ok (.getfield 27, 3) := by decide +kernel
theorem d_Ter_push_14 : decode prog_9_method_21_code 14 = .ok (.aload_n 0, 1) := by decide +kernel
theorem d_Ter_push_15 : decode prog_9_method_21_code 15 = .ok (.getfield 68, 3) := by decide +kernel
theorem d_Ter_push_18 : decode prog_9_method_21_code 18 = .ok (.iload_n 1, 1) := by decide +kernel
theorem d_Ter_push_19 : decode prog_9_method_21_code 19 = .ok (.iastore, 1) := by decide +kernel
theorem d_Ter_push_20 : decode prog_9_method_21_code 20 = .ok (.aload_n 0, 1) := by decide +kernel
theorem d_Ter_push_21 : decode prog_9_method_21_code 21 = .ok (.dup, 1) := by decide +kernel
theorem d_Ter_push_22 : decode prog_9_method_21_code 22 = .ok (.getfield 68, 3) := by decide +kernel
theorem d_Ter_push_25 : decode prog_9_method_21_code 25 = .ok (.iconst 1, 1) := by decide +kernel
theorem d_Ter_push_26 : decode prog_9_method_21_code 26 = .ok (.iadd, 1) := by decide +kernel
theorem d_Ter_push_27 : decode prog_9_method_21_code 27 = .ok (.putfield 68, 3) := by decide +kernel
theorem d_Ter_push_30 : decode prog_9_method_21_code 30 = .ok (.return_, 1) := by decide +kernel
theorem d_Ter_pop_0 : decode prog_9_method_22_code 0 = .ok (.aload_n 0, 1) := by decide +kernel
theorem d_Ter_pop_1 : decode prog_9_method_22_code 1 = .ok (.getfield 68, 3) := by decide +kernel
theorem d_Ter_pop_4 : decode prog_9_method_22_code 4 = .ok (.ifCond .le 13, 3) := by decide +kernel
theorem d_Ter_pop_7 : decode prog_9_method_22_code 7 = .ok (.aload_n 0, 1) := by decide +kernel
theorem d_Ter_pop_8 : decode prog_9_method_22_code 8 = .ok (.dup, 1) := by decide +kernel
theorem d_Ter_pop_9 : decode prog_9_method_22_code 9 = .ok (.getfield 68, 3) := by decide +kernel
theorem d_Ter_pop_12 : decode prog_9_method_22_code 12 = .ok (.iconst 1, 1) := by decide +kernel
theorem d_Ter_pop_13 : decode prog_9_method_22_code 13 = .ok (.isub, 1) := by decide +kernel
theorem d_Ter_pop_14 : decode prog_9_method_22_code 14 = .ok (.putfield 68, 3) := by decide +kernel
theorem d_Ter_pop_17 : decode prog_9_method_22_code 17 = .ok (.aload_n 0, 1) := by decide +kernel
theorem d_Ter_pop_18 : decode prog_9_method_22_code 18 = .ok (.getfield 27, 3) := by decide +kernel
theorem d_Ter_pop_21 : decode prog_9_method_22_code 21 = .ok (.aload_n 0, 1) := by decide +kernel
theorem d_Ter_pop_22 : decode prog_9_method_22_code 22 = .ok (.getfield 68, 3) := by decide +kernel
theorem d_Ter_pop_25 : decode prog_9_method_22_code 25 = .ok (.iaload, 1) := by decide +kernel
theorem d_Ter_pop_26 : decode prog_9_method_22_code 26 = .ok (.ireturn, 1) := by decide +kernel
theorem d_Ter_nextStanding_0 : decode prog_9_method_12_code 0 = .ok (.iload_n 1, 1) := by decide +kernel
theorem d_Ter_nextStanding_1 : decode prog_9_method_12_code 1 = .ok (.ifCond .lt 20, 3) := by decide +kernel
theorem d_Ter_nextStanding_4 : decode prog_9_method_12_code 4 = .ok (.iload_n 1, 1) := by decide +kernel
theorem d_Ter_nextStanding_5 : decode prog_9_method_12_code 5 = .ok (.aload_n 0, 1) := by decide +kernel
theorem d_Ter_nextStanding_6 : decode prog_9_method_12_code 6 = .ok (.getfield 33, 3) := by decide +kernel
theorem d_Ter_nextStanding_9 : decode prog_9_method_12_code 9 = .ok (.if_icmp .ge 12, 3) := by decide +kernel
theorem d_Ter_nextStanding_12 : decode prog_9_method_12_code 12 = .ok (.aload_n 0, 1) := by decide +kernel
theorem d_Ter_nextStanding_13 : decode prog_9_method_12_code 13 = .ok (.getfield 18, 3) := by decide +kernel
theorem d_Ter_nextStanding_16 : decode prog_9_method_12_code 16 = .ok (.iload_n 1, 1) := by decide +kernel
theorem d_Ter_nextStanding_17 : decode prog_9_method_12_code 17 = .ok (.iaload, 1) := by decide +kernel
theorem d_Ter_nextStanding_18 : decode prog_9_method_12_code 18 = .ok (.goto 4, 3) := by decide +kernel
theorem d_Ter_nextStanding_21 : decode prog_9_method_12_code 21 = .ok (.iconst (-1), 1) := by decide +kernel
theorem d_Ter_nextStanding_22 : decode prog_9_method_12_code 22 = .ok (.ireturn, 1) := by decide +kernel
theorem d_Ter_standing_0 : decode prog_9_method_11_code 0 = .ok (.iload_n 1, 1) := by decide +kernel
theorem d_Ter_standing_1 : decode prog_9_method_11_code 1 = .ok (.istore_n 2, 1) := by decide +kernel
theorem d_Ter_standing_2 : decode prog_9_method_11_code 2 = .ok (.iconst 0, 1) := by decide +kernel
theorem d_Ter_standing_3 : decode prog_9_method_11_code 3 = .ok (.istore_n 3, 1) := by decide +kernel
theorem d_Ter_standing_4 : decode prog_9_method_11_code 4 = .ok (.iload_n 3, 1) := by decide +kernel
theorem d_Ter_standing_5 : decode prog_9_method_11_code 5 = .ok (.sipush 2440, 3) := by decide +kernel
theorem d_Ter_standing_8 : decode prog_9_method_11_code 8 = .ok (.if_icmp .ge 24, 3) := by decide +kernel
theorem d_Ter_standing_11 : decode prog_9_method_11_code 11 = .ok (.aload_n 0, 1) := by decide +kernel
theorem d_Ter_standing_12 : decode prog_9_method_11_code 12 = .ok (.iload_n 2, 1) := by decide +kernel
theorem d_Ter_standing_13 : decode prog_9_method_11_code 13 = .ok (.invokevirtual 65, 3) := by decide +kernel
theorem d_Ter_standing_16 : decode prog_9_method_11_code 16 = .ok (.iconst (-1), 1) := by decide +kernel
theorem d_Ter_standing_17 : decode prog_9_method_11_code 17 = .ok (.if_icmp .eq 15, 3) := by decide +kernel
theorem d_Ter_standing_20 : decode prog_9_method_11_code 20 = .ok (.aload_n 0, 1) := by decide +kernel
theorem d_Ter_standing_21 : decode prog_9_method_11_code 21 = .ok (.iload_n 2, 1) := by decide +kernel
theorem d_Ter_standing_22 : decode prog_9_method_11_code 22 = .ok (.invokevirtual 65, 3) := by decide +kernel
theorem d_Ter_standing_25 : decode prog_9_method_11_code 25 = .ok (.istore_n 2, 1) := by decide +kernel
theorem d_Ter_standing_26 : decode prog_9_method_11_code 26 = .ok (.iinc 3 1, 3) := by decide +kernel
theorem d_Ter_standing_29 : decode prog_9_method_11_code 29 = .ok (.goto (-25), 3) := by decide +kernel
theorem d_Ter_standing_32 : decode prog_9_method_11_code 32 = .ok (.iload_n 2, 1) := by decide +kernel
theorem d_Ter_standing_33 : decode prog_9_method_11_code 33 = .ok (.ireturn, 1) := by decide +kernel
theorem d_Ter_symbolAt_0 : decode prog_9_method_8_code 0 = .ok (.iload_n 1, 1) := by decide +kernel
theorem d_Ter_symbolAt_1 : decode prog_9_method_8_code 1 = .ok (.ifCond .lt 20, 3) := by decide +kernel
theorem d_Ter_symbolAt_4 : decode prog_9_method_8_code 4 = .ok (.iload_n 1, 1) := by decide +kernel
theorem d_Ter_symbolAt_5 : decode prog_9_method_8_code 5 = .ok (.aload_n 0, 1) := by decide +kernel
theorem d_Ter_symbolAt_6 : decode prog_9_method_8_code 6 = .ok (.getfield 33, 3) := by decide +kernel
theorem d_Ter_symbolAt_9 : decode prog_9_method_8_code 9 = .ok (.if_icmp .ge 12, 3) := by decide +kernel
theorem d_Ter_symbolAt_12 : decode prog_9_method_8_code 12 = .ok (.aload_n 0, 1) := by decide +kernel
theorem d_Ter_symbolAt_13 : decode prog_9_method_8_code 13 = .ok (.getfield 11, 3) := by decide +kernel
theorem d_Ter_symbolAt_16 : decode prog_9_method_8_code 16 = .ok (.iload_n 1, 1) := by decide +kernel
theorem d_Ter_symbolAt_17 : decode prog_9_method_8_code 17 = .ok (.iaload, 1) := by decide +kernel
theorem d_Ter_symbolAt_18 : decode prog_9_method_8_code 18 = .ok (.goto 4, 3) := by decide +kernel
theorem d_Ter_symbolAt_21 : decode prog_9_method_8_code 21 = .ok (.iconst 0, 1) := by decide +kernel
theorem d_Ter_symbolAt_22 : decode prog_9_method_8_code 22 = .ok (.ireturn, 1) := by decide +kernel
theorem d_Ter_letStand_0 : decode prog_9_method_14_code 0 = .ok (.aload_n 0, 1) := by decide +kernel
theorem d_Ter_letStand_1 : decode prog_9_method_14_code 1 = .ok (.getfield 37, 3) := by decide +kernel
theorem d_Ter_letStand_4 : decode prog_9_method_14_code 4 = .ok (.sipush 2440, 3) := by decide +kernel
theorem d_Ter_letStand_7 : decode prog_9_method_14_code 7 = .ok (.if_icmp .ge 42, 3) := by decide +kernel
theorem d_Ter_letStand_10 : decode prog_9_method_14_code 10 = .ok (.iload_n 1, 1) := by decide +kernel
theorem d_Ter_letStand_11 : decode prog_9_method_14_code 11 = .ok (.ifCond .lt 38, 3) := by decide +kernel
theorem d_Ter_letStand_14 : decode prog_9_method_14_code 14 = .ok (.iload_n 1, 1) := by decide +kernel
theorem d_Ter_letStand_15 : decode prog_9_method_14_code 15 = .ok (.aload_n 0, 1) := by decide +kernel
theorem d_Ter_letStand_16 : decode prog_9_method_14_code 16 = .ok (.getfield 33, 3) := by decide +kernel
theorem d_Ter_letStand_19 : decode prog_9_method_14_code 19 = .ok (.if_icmp .ge 30, 3) := by decide +kernel
theorem d_Ter_letStand_22 : decode prog_9_method_14_code 22 = .ok (.aload_n 0, 1) := by decide +kernel
theorem d_Ter_letStand_23 : decode prog_9_method_14_code 23 = .ok (.getfield 18, 3) := by decide +kernel
theorem d_Ter_letStand_26 : decode prog_9_method_14_code 26 = .ok (.iload_n 1, 1) := by decide +kernel
theorem d_Ter_letStand_27 : decode prog_9_method_14_code 27 = .ok (.iload_n 2, 1) := by decide +kernel
theorem d_Ter_letStand_28 : decode prog_9_method_14_code 28 = .ok (.iastore, 1) := by decide +kernel
theorem d_Ter_letStand_29 : decode prog_9_method_14_code 29 = .ok (.aload_n 0, 1) := by decide +kernel
theorem d_Ter_letStand_30 : decode prog_9_method_14_code 30 = .ok (.getfield 24, 3) := by decide +kernel
theorem d_Ter_letStand_33 : decode prog_9_method_14_code 33 = .ok (.aload_n 0, 1) := by decide +kernel
theorem d_Ter_letStand_34 : decode prog_9_method_14_code 34 = .ok (.getfield 37, 3) := by decide +kernel
theorem d_Ter_letStand_37 : decode prog_9_method_14_code 37 = .ok (.iload_n 1, 1) := by decide +kernel
theorem d_Ter_letStand_38 : decode prog_9_method_14_code 38 = .ok (.iastore, 1) := by decide +kernel
theorem d_Ter_letStand_39 : decode prog_9_method_14_code 39 = .ok (.aload_n 0, 1) := by decide +kernel
theorem d_Ter_letStand_40 : decode prog_9_method_14_code 40 = .ok (.dup, 1) := by decide +kernel
theorem d_Ter_letStand_41 : decode prog_9_method_14_code 41 = .ok (.getfield 37, 3) := by decide +kernel
theorem d_Ter_letStand_44 : decode prog_9_method_14_code 44 = .ok (.iconst 1, 1) := by decide +kernel
theorem d_Ter_letStand_45 : decode prog_9_method_14_code 45 = .ok (.iadd, 1) := by decide +kernel
theorem d_Ter_letStand_46 : decode prog_9_method_14_code 46 = .ok (.putfield 37, 3) := by decide +kernel
theorem d_Ter_letStand_49 : decode prog_9_method_14_code 49 = .ok (.return_, 1) := by decide +kernel
theorem d_Ter_pushPairs_0 : decode prog_9_method_15_code 0 = .ok (.aload_n 0, 1) := by decide +kernel
theorem d_Ter_pushPairs_1 : decode prog_9_method_15_code 1 = .ok (.iload_n 1, 1) := by decide +kernel
theorem d_Ter_pushPairs_2 : decode prog_9_method_15_code 2 = .ok (.invokevirtual 83, 3) := by decide +kernel
theorem d_Ter_pushPairs_5 : decode prog_9_method_15_code 5 = .ok (.invokestatic 91, 3) := by decide +kernel
theorem d_Ter_pushPairs_8 : decode prog_9_method_15_code 8 = .ok (.istore_n 3, 1) := by decide +kernel
theorem d_Ter_pushPairs_9 : decode prog_9_method_15_code 9 = .ok (.iload_n 1, 1) := by decide +kernel
theorem d_Ter_pushPairs_10 : decode prog_9_method_15_code 10 = .ok (.iconst 1, 1) := by decide +kernel
theorem d_Ter_pushPairs_11 : decode prog_9_method_15_code 11 = .ok (.iadd, 1) := by decide +kernel
theorem d_Ter_pushPairs_12 : decode prog_9_method_15_code 12 = .ok (.istore 4, 2) := by decide +kernel
theorem d_Ter_pushPairs_14 : decode prog_9_method_15_code 14 = .ok (.iload_n 2, 1) := by decide +kernel
theorem d_Ter_pushPairs_15 : decode prog_9_method_15_code 15 = .ok (.iconst 1, 1) := by decide +kernel
theorem d_Ter_pushPairs_16 : decode prog_9_method_15_code 16 = .ok (.iadd, 1) := by decide +kernel
theorem d_Ter_pushPairs_17 : decode prog_9_method_15_code 17 = .ok (.istore 5, 2) := by decide +kernel
theorem d_Ter_pushPairs_19 : decode prog_9_method_15_code 19 = .ok (.iconst 0, 1) := by decide +kernel
theorem d_Ter_pushPairs_20 : decode prog_9_method_15_code 20 = .ok (.istore 6, 2) := by decide +kernel
theorem d_Ter_pushPairs_22 : decode prog_9_method_15_code 22 = .ok (.iload 6, 2) := by decide +kernel
theorem d_Ter_pushPairs_24 : decode prog_9_method_15_code 24 = .ok (.iload_n 3, 1) := by decide +kernel
theorem d_Ter_pushPairs_25 : decode prog_9_method_15_code 25 = .ok (.if_icmp .ge 43, 3) := by decide +kernel
theorem d_Ter_pushPairs_28 : decode prog_9_method_15_code 28 = .ok (.aload_n 0, 1) := by decide +kernel
theorem d_Ter_pushPairs_29 : decode prog_9_method_15_code 29 = .ok (.iload 4, 2) := by decide +kernel
theorem d_Ter_pushPairs_31 : decode prog_9_method_15_code 31 = .ok (.invokevirtual 71, 3) := by decide +kernel
theorem d_Ter_pushPairs_34 : decode prog_9_method_15_code 34 = .ok (.aload_n 0, 1) := by decide +kernel
theorem d_Ter_pushPairs_35 : decode prog_9_method_15_code 35 = .ok (.iload 5, 2) := by decide +kernel
theorem d_Ter_pushPairs_37 : decode prog_9_method_15_code 37 = .ok (.invokevirtual 71, 3) := by decide +kernel
theorem d_Ter_pushPairs_40 : decode prog_9_method_15_code 40 = .ok (.iload 4, 2) := by decide +kernel
theorem d_Ter_pushPairs_42 : decode prog_9_method_15_code 42 = .ok (.aload_n 0, 1) := by decide +kernel
theorem d_Ter_pushPairs_43 : decode prog_9_method_15_code 43 = .ok (.iload 4, 2) := by decide +kernel
theorem d_Ter_pushPairs_45 : decode prog_9_method_15_code 45 = .ok (.invokevirtual 64, 3) := by decide +kernel
theorem d_Ter_pushPairs_48 : decode prog_9_method_15_code 48 = .ok (.iadd, 1) := by decide +kernel
theorem d_Ter_pushPairs_49 : decode prog_9_method_15_code 49 = .ok (.istore 4, 2) := by decide +kernel
theorem d_Ter_pushPairs_51 : decode prog_9_method_15_code 51 = .ok (.iload 5, 2) := by decide +kernel
theorem d_Ter_pushPairs_53 : decode prog_9_method_15_code 53 = .ok (.aload_n 0, 1) := by decide +kernel
theorem d_Ter_pushPairs_54 : decode prog_9_method_15_code 54 = .ok (.iload 5, 2) := by decide +kernel
theorem d_Ter_pushPairs_56 : decode prog_9_method_15_code 56 = .ok (.invokevirtual 64, 3) := by decide +kernel
theorem d_Ter_pushPairs_59 : decode prog_9_method_15_code 59 = .ok (.iadd, 1) := by decide +kernel
theorem d_Ter_pushPairs_60 : decode prog_9_method_15_code 60 = .ok (.istore 5, 2) := by decide +kernel
theorem d_Ter_pushPairs_62 : decode prog_9_method_15_code 62 = .ok (.iinc 6 1, 3) := by decide +kernel
theorem d_Ter_pushPairs_65 : decode prog_9_method_15_code 65 = .ok (.goto (-43), 3) := by decide +kernel
theorem d_Ter_pushPairs_68 : decode prog_9_method_15_code 68 = .ok (.return_, 1) := by decide +kernel
theorem d_Ter_join_0 : decode prog_9_method_13_code 0 = .ok (.aload_n 0, 1) := by decide +kernel
theorem d_Ter_join_1 : decode prog_9_method_13_code 1 = .ok (.iconst 0, 1) := by decide +kernel
theorem d_Ter_join_2 : decode prog_9_method_13_code 2 = .ok (.putfield 68, 3) := by decide +kernel
theorem d_Ter_join_5 : decode prog_9_method_13_code 5 = .ok (.aload_n 0, 1) := by decide +kernel
theorem d_Ter_join_6 : decode prog_9_method_13_code 6 = .ok (.iload_n 1, 1) := by decide +kernel
theorem d_Ter_join_7 : decode prog_9_method_13_code 7 = .ok (.invokevirtual 71, 3) := by decide +kernel
theorem d_Ter_join_10 : decode prog_9_method_13_code 10 = .ok (.aload_n 0, 1) := by decide +kernel
theorem d_Ter_join_11 : decode prog_9_method_13_code 11 = .ok (.iload_n 2, 1) := by decide +kernel
theorem d_Ter_join_12 : decode prog_9_method_13_code 12 = .ok (.invokevirtual 71, 3) := by decide +kernel
theorem d_Ter_join_15 : decode prog_9_method_13_code 15 = .ok (.iconst 0, 1) := by decide +kernel
theorem d_Ter_join_16 : decode prog_9_method_13_code 16 = .ok (.istore_n 3, 1) := by decide +kernel
theorem d_Ter_join_17 : decode prog_9_method_13_code 17 = .ok (.iload_n 3, 1) := by decide +kernel
theorem d_Ter_join_18 : decode prog_9_method_13_code 18 = .ok (.ldc 75, 2) := by decide +kernel
theorem d_Ter_join_20 : decode prog_9_method_13_code 20 = .ok (.if_icmp .ge 125, 3) := by decide +kernel
theorem d_Ter_join_23 : decode prog_9_method_13_code 23 = .ok (.aload_n 0, 1) := by decide +kernel
theorem d_Ter_join_24 : decode prog_9_method_13_code 24 = .ok (.getfield 68, 3) := by decide +kernel
theorem d_Ter_join_27 : decode prog_9_method_13_code 27 = .ok (.iconst 1, 1) := by decide +kernel
theorem d_Ter_join_28 : decode prog_9_method_13_code 28 = .ok (.if_icmp .le 117, 3) := by decide +kernel
theorem d_Ter_join_31 : decode prog_9_method_13_code 31 = .ok (.aload_n 0, 1) := by decide +kernel
theorem d_Ter_join_32 : decode prog_9_method_13_code 32 = .ok (.aload_n 0, 1) := by decide +kernel
theorem d_Ter_join_33 : decode prog_9_method_13_code 33 = .ok (.invokevirtual 76, 3) := by decide +kernel
theorem d_Ter_join_36 : decode prog_9_method_13_code 36 = .ok (.invokevirtual 80, 3) := by decide +kernel
theorem d_Ter_join_39 : decode prog_9_method_13_code 39 = .ok (.istore 4, 2) := by decide +kernel
theorem d_Ter_join_41 : decode prog_9_method_13_code 41 = .ok (.aload_n 0, 1) := by decide +kernel
theorem d_Ter_join_42 : decode prog_9_method_13_code 42 = .ok (.aload_n 0, 1) := by decide +kernel
theorem d_Ter_join_43 : decode prog_9_method_13_code 43 = .ok (.invokevirtual 76, 3) := by decide +kernel
theorem d_Ter_join_46 : decode prog_9_method_13_code 46 = .ok (.invokevirtual 80, 3) := by decide +kernel
theorem d_Ter_join_49 : decode prog_9_method_13_code 49 = .ok (.istore 5, 2) := by decide +kernel
theorem d_Ter_join_51 : decode prog_9_method_13_code 51 = .ok (.iload 4, 2) := by decide +kernel
theorem d_Ter_join_53 : decode prog_9_method_13_code 53 = .ok (.iload 5, 2) := by decide +kernel
theorem d_Ter_join_55 : decode prog_9_method_13_code 55 = .ok (.if_icmp .ne 6, 3) := by decide +kernel
theorem d_Ter_join_58 : decode prog_9_method_13_code 58 = .ok (.goto 81, 3) := by decide +kernel
theorem d_Ter_join_61 : decode prog_9_method_13_code 61 = .ok (.aload_n 0, 1) := by decide +kernel
theorem d_Ter_join_62 : decode prog_9_method_13_code 62 = .ok (.iload 4, 2) := by decide +kernel
theorem d_Ter_join_64 : decode prog_9_method_13_code 64 = .ok (.invokevirtual 83, 3) := by decide +kernel
theorem d_Ter_join_67 : decode prog_9_method_13_code 67 = .ok (.iconst (-1), 1) := by decide +kernel
theorem d_Ter_join_68 : decode prog_9_method_13_code 68 = .ok (.if_icmp .ne 14, 3) := by decide +kernel
theorem d_Ter_join_71 : decode prog_9_method_13_code 71 = .ok (.aload_n 0, 1) := by decide +kernel
theorem d_Ter_join_72 : decode prog_9_method_13_code 72 = .ok (.iload 4, 2) := by decide +kernel
theorem d_Ter_join_74 : decode prog_9_method_13_code 74 = .ok (.iload 5, 2) := by decide +kernel
theorem d_Ter_join_76 : decode prog_9_method_13_code 76 = .ok (.invokevirtual 84, 3) := by decide +kernel
theorem d_Ter_join_79 : decode prog_9_method_13_code 79 = .ok (.goto 60, 3) := by decide +kernel
theorem d_Ter_join_82 : decode prog_9_method_13_code 82 = .ok (.aload_n 0, 1) := by decide +kernel
theorem d_Ter_join_83 : decode prog_9_method_13_code 83 = .ok (.iload 5, 2) := by decide +kernel
theorem d_Ter_join_85 : decode prog_9_method_13_code 85 = .ok (.invokevirtual 83, 3) := by decide +kernel
theorem d_Ter_join_88 : decode prog_9_method_13_code 88 = .ok (.iconst (-1), 1) := by decide +kernel
theorem d_Ter_join_89 : decode prog_9_method_13_code 89 = .ok (.if_icmp .ne 14, 3) := by decide +kernel
theorem d_Ter_join_92 : decode prog_9_method_13_code 92 = .ok (.aload_n 0, 1) := by decide +kernel
theorem d_Ter_join_93 : decode prog_9_method_13_code 93 = .ok (.iload 5, 2) := by decide +kernel
theorem d_Ter_join_95 : decode prog_9_method_13_code 95 = .ok (.iload 4, 2) := by decide +kernel
theorem d_Ter_join_97 : decode prog_9_method_13_code 97 = .ok (.invokevirtual 84, 3) := by decide +kernel
theorem d_Ter_join_100 : decode prog_9_method_13_code 100 = .ok (.goto 39, 3) := by decide +kernel
theorem d_Ter_join_103 : decode prog_9_method_13_code 103 = .ok (.aload_n 0, 1) := by decide +kernel
theorem d_Ter_join_104 : decode prog_9_method_13_code 104 = .ok (.iload 4, 2) := by decide +kernel
theorem d_Ter_join_106 : decode prog_9_method_13_code 106 = .ok (.invokevirtual 83, 3) := by decide +kernel
theorem d_Ter_join_109 : decode prog_9_method_13_code 109 = .ok (.aload_n 0, 1) := by decide +kernel
theorem d_Ter_join_110 : decode prog_9_method_13_code 110 = .ok (.iload 5, 2) := by decide +kernel
theorem d_Ter_join_112 : decode prog_9_method_13_code 112 = .ok (.invokevirtual 83, 3) := by decide +kernel
theorem d_Ter_join_115 : decode prog_9_method_13_code 115 = .ok (.if_icmp .ne 22, 3) := by decide +kernel
theorem d_Ter_join_118 : decode prog_9_method_13_code 118 = .ok (.aload_n 0, 1) := by decide +kernel
theorem d_Ter_join_119 : decode prog_9_method_13_code 119 = .ok (.iload 4, 2) := by decide +kernel
theorem d_Ter_join_121 : decode prog_9_method_13_code 121 = .ok (.iload 5, 2) := by decide +kernel
theorem d_Ter_join_123 : decode prog_9_method_13_code 123 = .ok (.invokevirtual 84, 3) := by decide +kernel
theorem d_Ter_join_126 : decode prog_9_method_13_code 126 = .ok (.aload_n 0, 1) := by decide +kernel
theorem d_Ter_join_127 : decode prog_9_method_13_code 127 = .ok (.iload 4, 2) := by decide +kernel
theorem d_Ter_join_129 : decode prog_9_method_13_code 129 = .ok (.iload 5, 2) := by decide +kernel
theorem d_Ter_join_131 : decode prog_9_method_13_code 131 = .ok (.invokevirtual 88, 3) := by decide +kernel
theorem d_Ter_join_134 : decode prog_9_method_13_code 134 = .ok (.goto 5, 3) := by decide +kernel
theorem d_Ter_join_137 : decode prog_9_method_13_code 137 = .ok (.iconst 0, 1) := by decide +kernel
theorem d_Ter_join_138 : decode prog_9_method_13_code 138 = .ok (.ireturn, 1) := by decide +kernel
theorem d_Ter_join_139 : decode prog_9_method_13_code 139 = .ok (.iinc 3 1, 3) := by decide +kernel
theorem d_Ter_join_142 : decode prog_9_method_13_code 142 = .ok (.goto (-125), 3) := by decide +kernel
theorem d_Ter_join_145 : decode prog_9_method_13_code 145 = .ok (.iconst 1, 1) := by decide +kernel
theorem d_Ter_join_146 : decode prog_9_method_13_code 146 = .ok (.ireturn, 1) := by decide +kernel
theorem d_Ter_mark_0 : decode prog_9_method_17_code 0 = .ok (.iload_n 1, 1) := by decide +kernel
theorem d_Ter_mark_1 : decode prog_9_method_17_code 1 = .ok (.ifCond .lt 18, 3) := by decide +kernel
theorem d_Ter_mark_4 : decode prog_9_method_17_code 4 = .ok (.iload_n 1, 1) := by decide +kernel
theorem d_Ter_mark_5 : decode prog_9_method_17_code 5 = .ok (.aload_n 0, 1) := by decide +kernel
theorem d_Ter_mark_6 : decode prog_9_method_17_code 6 = .ok (.getfield 33, 3) := by decide +kernel
theorem d_Ter_mark_9 : decode prog_9_method_17_code 9 = .ok (.if_icmp .ge 10, 3) := by decide +kernel
theorem d_Ter_mark_12 : decode prog_9_method_17_code 12 = .ok (.aload_n 0, 1) := by decide +kernel
theorem d_Ter_mark_13 : decode prog_9_method_17_code 13 = .ok (.getfield 21, 3) := by decide +kernel
theorem d_Ter_mark_16 : decode prog_9_method_17_code 16 = .ok (.iload_n 1, 1) := by decide +kernel
theorem d_Ter_mark_17 : decode prog_9_method_17_code 17 = .ok (.iload_n 2, 1) := by decide +kernel
theorem d_Ter_mark_18 : decode prog_9_method_17_code 18 = .ok (.iastore, 1) := by decide +kernel
theorem d_Ter_mark_19 : decode prog_9_method_17_code 19 = .ok (.return_, 1) := by decide +kernel
theorem d_Ter_markAt_0 : decode prog_9_method_18_code 0 = .ok (.iload_n 1, 1) := by decide +kernel
theorem d_Ter_markAt_1 : decode prog_9_method_18_code 1 = .ok (.ifCond .lt 20, 3) := by decide +kernel
theorem d_Ter_markAt_4 : decode prog_9_method_18_code 4 = .ok (.iload_n 1, 1) := by decide +kernel
theorem d_Ter_markAt_5 : decode prog_9_method_18_code 5 = .ok (.aload_n 0, 1) := by decide +kernel
theorem d_Ter_markAt_6 : decode prog_9_method_18_code 6 = .ok (.getfield 33, 3) := by decide +kernel
theorem d_Ter_markAt_9 : decode prog_9_method_18_code 9 = .ok (.if_icmp .ge 12, 3) := by decide +kernel
theorem d_Ter_markAt_12 : decode prog_9_method_18_code 12 = .ok (.aload_n 0, 1) := by decide +kernel
theorem d_Ter_markAt_13 : decode prog_9_method_18_code 13 = .ok (.getfield 21, 3) := by decide +kernel
theorem d_Ter_markAt_16 : decode prog_9_method_18_code 16 = .ok (.iload_n 1, 1) := by decide +kernel
theorem d_Ter_markAt_17 : decode prog_9_method_18_code 17 = .ok (.iaload, 1) := by decide +kernel
theorem d_Ter_markAt_18 : decode prog_9_method_18_code 18 = .ok (.goto 4, 3) := by decide +kernel
theorem d_Ter_markAt_21 : decode prog_9_method_18_code 21 = .ok (.iconst 0, 1) := by decide +kernel
theorem d_Ter_markAt_22 : decode prog_9_method_18_code 22 = .ok (.ireturn, 1) := by decide +kernel
theorem d_Ter_pushArguments_0 : decode prog_9_method_20_code 0 = .ok (.aload_n 0, 1) := by decide +kernel
theorem d_Ter_pushArguments_1 : decode prog_9_method_20_code 1 = .ok (.iload_n 1, 1) := by decide +kernel
theorem d_Ter_pushArguments_2 : decode prog_9_method_20_code 2 = .ok (.invokevirtual 83, 3) := by decide +kernel
theorem d_Ter_pushArguments_5 : decode prog_9_method_20_code 5 = .ok (.invokestatic 91, 3) := by decide +kernel
theorem d_Ter_pushArguments_8 : decode prog_9_method_20_code 8 = .ok (.istore_n 2, 1) := by decide +kernel
theorem d_Ter_pushArguments_9 : decode prog_9_method_20_code 9 = .ok (.iload_n 1, 1) := by decide +kernel
theorem d_Ter_pushArguments_10 : decode prog_9_method_20_code 10 = .ok (.iconst 1, 1) := by decide +kernel
theorem d_Ter_pushArguments_11 : decode prog_9_method_20_code 11 = .ok (.iadd, 1) := by decide +kernel
theorem d_Ter_pushArguments_12 : decode prog_9_method_20_code 12 = .ok (.istore_n 3, 1) := by decide +kernel
theorem d_Ter_pushArguments_13 : decode prog_9_method_20_code 13 = .ok (.iconst 0, 1) := by decide +kernel
theorem d_Ter_pushArguments_14 : decode prog_9_method_20_code 14 = .ok (.istore 4, 2) := by decide +kernel
theorem d_Ter_pushArguments_16 : decode prog_9_method_20_code 16 = .ok (.iload 4, 2) := by decide +kernel
theorem d_Ter_pushArguments_18 : decode prog_9_method_20_code 18 = .ok (.iload_n 2, 1) := by decide +kernel
theorem d_Ter_pushArguments_19 : decode prog_9_method_20_code 19 = .ok (.if_icmp .ge 22, 3) := by decide +kernel
theorem d_Ter_pushArguments_22 : decode prog_9_method_20_code 22 = .ok (.aload_n 0, 1) := by decide +kernel
theorem d_Ter_pushArguments_23 : decode prog_9_method_20_code 23 = .ok (.iload_n 3, 1) := by decide +kernel
theorem d_Ter_pushArguments_24 : decode prog_9_method_20_code 24 = .ok (.invokevirtual 71, 3) := by decide +kernel
theorem d_Ter_pushArguments_27 : decode prog_9_method_20_code 27 = .ok (.iload_n 3, 1) := by decide +kernel
theorem d_Ter_pushArguments_28 : decode prog_9_method_20_code 28 = .ok (.aload_n 0, 1) := by decide +kernel
theorem d_Ter_pushArguments_29 : decode prog_9_method_20_code 29 = .ok (.iload_n 3, 1) := by decide +kernel
theorem d_Ter_pushArguments_30 : decode prog_9_method_20_code 30 = .ok (.invokevirtual 64, 3) := by decide +kernel
theorem d_Ter_pushArguments_33 : decode prog_9_method_20_code 33 = .ok (.iadd, 1) := by decide +kernel
theorem d_Ter_pushArguments_34 : decode prog_9_method_20_code 34 = .ok (.istore_n 3, 1) := by decide +kernel
theorem d_Ter_pushArguments_35 : decode prog_9_method_20_code 35 = .ok (.iinc 4 1, 3) := by decide +kernel
theorem d_Ter_pushArguments_38 : decode prog_9_method_20_code 38 = .ok (.goto (-22), 3) := by decide +kernel
theorem d_Ter_pushArguments_41 : decode prog_9_method_20_code 41 = .ok (.return_, 1) := by decide +kernel
theorem d_Ter_isCircular_0 : decode prog_9_method_16_code 0 = .ok (.aload_n 0, 1) := by decide +kernel
theorem d_Ter_isCircular_1 : decode prog_9_method_16_code 1 = .ok (.getfield 94, 3) := by decide +kernel
theorem d_Ter_isCircular_4 : decode prog_9_method_16_code 4 = .ok (.iconst 1, 1) := by decide +kernel
theorem d_Ter_isCircular_5 : decode prog_9_method_16_code 5 = .ok (.iadd, 1) := by decide +kernel
theorem d_Ter_isCircular_6 : decode prog_9_method_16_code 6 = .ok (.istore_n 2, 1) := by decide +kernel
theorem d_Ter_isCircular_7 : decode prog_9_method_16_code 7 = .ok (.aload_n 0, 1) := by decide +kernel
theorem d_Ter_isCircular_8 : decode prog_9_method_16_code 8 = .ok (.getfield 94, 3) := by decide +kernel
theorem d_Ter_isCircular_11 : decode prog_9_method_16_code 11 = .ok (.iconst 2, 1) := by decide +kernel
theorem d_Ter_isCircular_12 : decode prog_9_method_16_code 12 = .ok (.iadd, 1) := by decide +kernel
theorem d_Ter_isCircular_13 : decode prog_9_method_16_code 13 = .ok (.istore_n 3, 1) := by decide +kernel
theorem d_Ter_isCircular_14 : decode prog_9_method_16_code 14 = .ok (.aload_n 0, 1) := by decide +kernel
theorem d_Ter_isCircular_15 : decode prog_9_method_16_code 15 = .ok (.iload_n 3, 1) := by decide +kernel
theorem d_Ter_isCircular_16 : decode prog_9_method_16_code 16 = .ok (.putfield 94, 3) := by decide +kernel
theorem d_Ter_isCircular_19 : decode prog_9_method_16_code 19 = .ok (.aload_n 0, 1) := by decide +kernel
theorem d_Ter_isCircular_20 : decode prog_9_method_16_code 20 = .ok (.iconst 0, 1) := by decide +kernel
theorem d_Ter_isCircular_21 : decode prog_9_method_16_code 21 = .ok (.putfield 68, 3) := by decide +kernel
theorem d_Ter_isCircular_24 : decode prog_9_method_16_code 24 = .ok (.aload_n 0, 1) := by decide +kernel
theorem d_Ter_isCircular_25 : decode prog_9_method_16_code 25 = .ok (.iload_n 1, 1) := by decide +kernel
theorem d_Ter_isCircular_26 : decode prog_9_method_16_code 26 = .ok (.invokevirtual 71, 3) := by decide +kernel
theorem d_Ter_isCircular_29 : decode prog_9_method_16_code 29 = .ok (.iconst 0, 1) := by decide +kernel
theorem d_Ter_isCircular_30 : decode prog_9_method_16_code 30 = .ok (.istore 4, 2) := by decide +kernel
theorem d_Ter_isCircular_32 : decode prog_9_method_16_code 32 = .ok (.iload 4, 2) := by decide +kernel
theorem d_Ter_isCircular_34 : decode prog_9_method_16_code 34 = .ok (.ldc 75, 2) := by decide +kernel
theorem d_Ter_isCircular_36 : decode prog_9_method_16_code 36 = .ok (.if_icmp .ge 90, 3) := by decide +kernel
theorem d_Ter_isCircular_39 : decode prog_9_method_16_code 39 = .ok (.aload_n 0, 1) := by decide +kernel
theorem d_Ter_isCircular_40 : decode prog_9_method_16_code 40 = .ok (.getfield 68, 3) := by decide +kernel
theorem d_Ter_isCircular_43 : decode prog_9_method_16_code 43 = .ok (.ifCond .le 83, 3) := by decide +kernel
theorem d_Ter_isCircular_46 : decode prog_9_method_16_code 46 = .ok (.aload_n 0, 1) := by decide +kernel
theorem d_Ter_isCircular_47 : decode prog_9_method_16_code 47 = .ok (.invokevirtual 76, 3) := by decide +kernel
theorem d_Ter_isCircular_50 : decode prog_9_method_16_code 50 = .ok (.istore 5, 2) := by decide +kernel
theorem d_Ter_isCircular_52 : decode prog_9_method_16_code 52 = .ok (.iload 5, 2) := by decide +kernel
theorem d_Ter_isCircular_54 : decode prog_9_method_16_code 54 = .ok (.ifCond .ge 15, 3) := by decide +kernel
theorem d_Ter_isCircular_57 : decode prog_9_method_16_code 57 = .ok (.aload_n 0, 1) := by decide +kernel
theorem d_Ter_isCircular_58 : decode prog_9_method_16_code 58 = .ok (.iconst (-1), 1) := by decide +kernel
theorem d_Ter_isCircular_59 : decode prog_9_method_16_code 59 = .ok (.iload 5, 2) := by decide +kernel
theorem d_Ter_isCircular_61 : decode prog_9_method_16_code 61 = .ok (.isub, 1) := by decide +kernel
theorem d_Ter_isCircular_62 : decode prog_9_method_16_code 62 = .ok (.iload_n 3, 1) := by decide +kernel
theorem d_Ter_isCircular_63 : decode prog_9_method_16_code 63 = .ok (.invokevirtual 97, 3) := by decide +kernel
theorem d_Ter_isCircular_66 : decode prog_9_method_16_code 66 = .ok (.goto 54, 3) := by decide +kernel
theorem d_Ter_isCircular_69 : decode prog_9_method_16_code 69 = .ok (.aload_n 0, 1) := by decide +kernel
theorem d_Ter_isCircular_70 : decode prog_9_method_16_code 70 = .ok (.iload 5, 2) := by decide +kernel
theorem d_Ter_isCircular_72 : decode prog_9_method_16_code 72 = .ok (.invokevirtual 80, 3) := by decide +kernel
theorem d_Ter_isCircular_75 : decode prog_9_method_16_code 75 = .ok (.istore 6, 2) := by decide +kernel
theorem d_Ter_isCircular_77 : decode prog_9_method_16_code 77 = .ok (.aload_n 0, 1) := by decide +kernel
theorem d_Ter_isCircular_78 : decode prog_9_method_16_code 78 = .ok (.iload 6, 2) := by decide +kernel
theorem d_Ter_isCircular_80 : decode prog_9_method_16_code 80 = .ok (.invokevirtual 100, 3) := by decide +kernel
theorem d_Ter_isCircular_83 : decode prog_9_method_16_code 83 = .ok (.iload_n 2, 1) := by decide +kernel
theorem d_Ter_isCircular_84 : decode prog_9_method_16_code 84 = .ok (.if_icmp .ne 5, 3) := by decide +kernel
theorem d_Ter_isCircular_87 : decode prog_9_method_16_code 87 = .ok (.iconst 1, 1) := by decide +kernel
theorem d_Ter_isCircular_88 : decode prog_9_method_16_code 88 = .ok (.ireturn, 1) := by decide +kernel
theorem d_Ter_isCircular_89 : decode prog_9_method_16_code 89 = .ok (.aload_n 0, 1) := by decide +kernel
theorem d_Ter_isCircular_90 : decode prog_9_method_16_code 90 = .ok (.iload 6, 2) := by decide +kernel
theorem d_Ter_isCircular_92 : decode prog_9_method_16_code 92 = .ok (.invokevirtual 100, 3) := by decide +kernel
theorem d_Ter_isCircular_95 : decode prog_9_method_16_code 95 = .ok (.iload_n 3, 1) := by decide +kernel
theorem d_Ter_isCircular_96 : decode prog_9_method_16_code 96 = .ok (.if_icmp .eq 24, 3) := by decide +kernel
theorem d_Ter_isCircular_99 : decode prog_9_method_16_code 99 = .ok (.aload_n 0, 1) := by decide +kernel
theorem d_Ter_isCircular_100 : decode prog_9_method_16_code 100 = .ok (.iload 6, 2) := by decide +kernel
theorem d_Ter_isCircular_102 : decode prog_9_method_16_code 102 = .ok (.iload_n 2, 1) := by decide +kernel
theorem d_Ter_isCircular_103 : decode prog_9_method_16_code 103 = .ok (.invokevirtual 97, 3) := by decide +kernel
theorem d_Ter_isCircular_106 : decode prog_9_method_16_code 106 = .ok (.aload_n 0, 1) := by decide +kernel
theorem d_Ter_isCircular_107 : decode prog_9_method_16_code 107 = .ok (.iconst (-1), 1) := by decide +kernel
theorem d_Ter_isCircular_108 : decode prog_9_method_16_code 108 = .ok (.iload 6, 2) := by decide +kernel
theorem d_Ter_isCircular_110 : decode prog_9_method_16_code 110 = .ok (.isub, 1) := by decide +kernel
theorem d_Ter_isCircular_111 : decode prog_9_method_16_code 111 = .ok (.invokevirtual 71, 3) := by decide +kernel
theorem d_Ter_isCircular_114 : decode prog_9_method_16_code 114 = .ok (.aload_n 0, 1) := by decide +kernel
theorem d_Ter_isCircular_115 : decode prog_9_method_16_code 115 = .ok (.iload 6, 2) := by decide +kernel
theorem d_Ter_isCircular_117 : decode prog_9_method_16_code 117 = .ok (.invokevirtual 103, 3) := by decide +kernel
theorem d_Ter_isCircular_120 : decode prog_9_method_16_code 120 = .ok (.iinc 4 1, 3) := by decide +kernel
theorem d_Ter_isCircular_123 : decode prog_9_method_16_code 123 = .ok (.goto (-91), 3) := by decide +kernel
theorem d_Ter_isCircular_126 : decode prog_9_method_16_code 126 = .ok (.iconst 0, 1) := by decide +kernel
theorem d_Ter_isCircular_127 : decode prog_9_method_16_code 127 = .ok (.ireturn, 1) := by decide +kernel
theorem d_Ter_countSymbols_0 : decode prog_9_method_19_code 0 = .ok (.iconst 0, 1) := by decide +kernel
theorem d_Ter_countSymbols_1 : decode prog_9_method_19_code 1 = .ok (.istore_n 3, 1) := by decide +kernel
theorem d_Ter_countSymbols_2 : decode prog_9_method_19_code 2 = .ok (.aload_n 0, 1) := by decide +kernel
theorem d_Ter_countSymbols_3 : decode prog_9_method_19_code 3 = .ok (.iconst 0, 1) := by decide +kernel
theorem d_Ter_countSymbols_4 : decode prog_9_method_19_code 4 = .ok (.putfield 68, 3) := by decide +kernel
theorem d_Ter_countSymbols_7 : decode prog_9_method_19_code 7 = .ok (.aload_n 0, 1) := by decide +kernel
theorem d_Ter_countSymbols_8 : decode prog_9_method_19_code 8 = .ok (.iload_n 1, 1) := by decide +kernel
theorem d_Ter_countSymbols_9 : decode prog_9_method_19_code 9 = .ok (.invokevirtual 71, 3) := by decide +kernel
theorem d_Ter_countSymbols_12 : decode prog_9_method_19_code 12 = .ok (.iload_n 3, 1) := by decide +kernel
theorem d_Ter_countSymbols_13 : decode prog_9_method_19_code 13 = .ok (.iload_n 2, 1) := by decide +kernel
theorem d_Ter_countSymbols_14 : decode prog_9_method_19_code 14 = .ok (.if_icmp .gt 28, 3) := by decide +kernel
theorem d_Ter_countSymbols_17 : decode prog_9_method_19_code 17 = .ok (.aload_n 0, 1) := by decide +kernel
theorem d_Ter_countSymbols_18 : decode prog_9_method_19_code 18 = .ok (.getfield 68, 3) := by decide +kernel
theorem d_Ter_countSymbols_21 : decode prog_9_method_19_code 21 = .ok (.ifCond .le 21, 3) := by decide +kernel
theorem d_Ter_countSymbols_24 : decode prog_9_method_19_code 24 = .ok (.aload_n 0, 1) := by decide +kernel
theorem d_Ter_countSymbols_25 : decode prog_9_method_19_code 25 = .ok (.aload_n 0, 1) := by decide +kernel
theorem d_Ter_countSymbols_26 : decode prog_9_method_19_code 26 = .ok (.aload_n 0, 1) := by decide +kernel
theorem d_Ter_countSymbols_27 : decode prog_9_method_19_code 27 = .ok (.invokevirtual 76, 3) := by decide +kernel
theorem d_Ter_countSymbols_30 : decode prog_9_method_19_code 30 = .ok (.invokevirtual 80, 3) := by decide +kernel
theorem d_Ter_countSymbols_33 : decode prog_9_method_19_code 33 = .ok (.invokevirtual 103, 3) := by decide +kernel
theorem d_Ter_countSymbols_36 : decode prog_9_method_19_code 36 = .ok (.iinc 3 1, 3) := by decide +kernel
theorem d_Ter_countSymbols_39 : decode prog_9_method_19_code 39 = .ok (.goto (-27), 3) := by decide +kernel
theorem d_Ter_countSymbols_42 : decode prog_9_method_19_code 42 = .ok (.iload_n 3, 1) := by decide +kernel
theorem d_Ter_countSymbols_43 : decode prog_9_method_19_code 43 = .ok (.ireturn, 1) := by decide +kernel
theorem d_Sea_isLarge_0 : decode prog_7_method_11_code 0 = .ok (.bipush 120, 2) := by decide +kernel
theorem d_Sea_isLarge_2 : decode prog_7_method_11_code 2 = .ok (.istore_n 1, 1) := by decide +kernel
theorem d_Sea_isLarge_3 : decode prog_7_method_11_code 3 = .ok (.aload_n 0, 1) := by decide +kernel
theorem d_Sea_isLarge_4 : decode prog_7_method_11_code 4 = .ok (.getfield 21, 3) := by decide +kernel
theorem d_Sea_isLarge_7 : decode prog_7_method_11_code 7 = .ok (.invokevirtual 119, 3) := by decide +kernel
theorem d_Sea_isLarge_10 : decode prog_7_method_11_code 10 = .ok (.istore_n 2, 1) := by decide +kernel
theorem d_Sea_isLarge_11 : decode prog_7_method_11_code 11 = .ok (.iconst 0, 1) := by decide +kernel
theorem d_Sea_isLarge_12 : decode prog_7_method_11_code 12 = .ok (.istore_n 3, 1) := by decide +kernel
theorem d_Sea_isLarge_13 : decode prog_7_method_11_code 13 = .ok (.iload_n 3, 1) := by decide +kernel
theorem d_Sea_isLarge_14 : decode prog_7_method_11_code 14 = .ok (.bipush 120, 2) := by decide +kernel
theorem d_Sea_isLarge_16 : decode prog_7_method_11_code 16 = .ok (.if_icmp .gt 46, 3) := by decide +kernel
theorem d_Sea_isLarge_19 : decode prog_7_method_11_code 19 = .ok (.iload_n 1, 1) := by decide +kernel
theorem d_Sea_isLarge_20 : decode prog_7_method_11_code 20 = .ok (.ifCond .lt 42, 3) := by decide +kernel
theorem d_Sea_isLarge_23 : decode prog_7_method_11_code 23 = .ok (.iload_n 2, 1) := by decide +kernel
theorem d_Sea_isLarge_24 : decode prog_7_method_11_code 24 = .ok (.iconst (-1), 1) := by decide +kernel
theorem d_Sea_isLarge_25 : decode prog_7_method_11_code 25 = .ok (.if_icmp .eq 37, 3) := by decide +kernel
theorem d_Sea_isLarge_28 : decode prog_7_method_11_code 28 = .ok (.iload_n 1, 1) := by decide +kernel
theorem d_Sea_isLarge_29 : decode prog_7_method_11_code 29 = .ok (.aload_n 0, 1) := by decide +kernel
theorem d_Sea_isLarge_30 : decode prog_7_method_11_code 30 = .ok (.getfield 12, 3) := by decide +kernel
theorem d_Sea_isLarge_33 : decode prog_7_method_11_code 33 = .ok (.aload_n 0, 1) := by decide +kernel
theorem d_Sea_isLarge_34 : decode prog_7_method_11_code 34 = .ok (.getfield 21, 3) := by decide +kernel
theorem d_Sea_isLarge_37 : decode prog_7_method_11_code 37 = .ok (.iload_n 2, 1) := by decide +kernel
theorem d_Sea_isLarge_38 : decode prog_7_method_11_code 38 = .ok (.invokevirtual 125, 3) := by decide +kernel
theorem d_Sea_isLarge_41 : decode prog_7_method_11_code 41 = .ok (.iload_n 1, 1) := by decide +kernel
theorem d_Sea_isLarge_42 : decode prog_7_method_11_code 42 = .ok (.invokevirtual 205, 3) := by decide +kernel
theorem d_Sea_isLarge_45 : decode prog_7_method_11_code 45 = .ok (.isub, 1) := by decide +kernel
theorem d_Sea_isLarge_46 : decode prog_7_method_11_code 46 = .ok (.istore_n 1, 1) := by decide +kernel
theorem d_Sea_isLarge_47 : decode prog_7_method_11_code 47 = .ok (.aload_n 0, 1) := by decide +kernel
theorem d_Sea_isLarge_48 : decode prog_7_method_11_code 48 = .ok (.getfield 21, 3) := by decide +kernel
theorem d_Sea_isLarge_51 : decode prog_7_method_11_code 51 = .ok (.iload_n 2, 1) := by decide +kernel
theorem d_Sea_isLarge_52 : decode prog_7_method_11_code 52 = .ok (.invokevirtual 208, 3) := by decide +kernel
theorem d_Sea_isLarge_55 : decode prog_7_method_11_code 55 = .ok (.istore_n 2, 1) := by decide +kernel
theorem d_Sea_isLarge_56 : decode prog_7_method_11_code 56 = .ok (.iinc 3 1, 3) := by decide +kernel
theorem d_Sea_isLarge_59 : decode prog_7_method_11_code 59 = .ok (.goto (-46), 3) := by decide +kernel
theorem d_Sea_isLarge_62 : decode prog_7_method_11_code 62 = .ok (.iconst 0, 1) := by decide +kernel
theorem d_Sea_isLarge_63 : decode prog_7_method_11_code 63 = .ok (.istore_n 3, 1) := by decide +kernel
theorem d_Sea_isLarge_64 : decode prog_7_method_11_code 64 = .ok (.iload_n 3, 1) := by decide +kernel
theorem d_Sea_isLarge_65 : decode prog_7_method_11_code 65 = .ok (.aload_n 0, 1) := by decide +kernel
theorem d_Sea_isLarge_66 : decode prog_7_method_11_code 66 = .ok (.getfield 67, 3) := by decide +kernel
theorem d_Sea_isLarge_69 : decode prog_7_method_11_code 69 = .ok (.if_icmp .ge 30, 3) := by decide +kernel
theorem d_Sea_isLarge_72 : decode prog_7_method_11_code 72 = .ok (.iload_n 1, 1) := by decide +kernel
theorem d_Sea_isLarge_73 : decode prog_7_method_11_code 73 = .ok (.ifCond .lt 26, 3) := by decide +kernel
theorem d_Sea_isLarge_76 : decode prog_7_method_11_code 76 = .ok (.iload_n 1, 1) := by decide +kernel
theorem d_Sea_isLarge_77 : decode prog_7_method_11_code 77 = .ok (.aload_n 0, 1) := by decide +kernel
theorem d_Sea_isLarge_78 : decode prog_7_method_11_code 78 = .ok (.getfield 12, 3) := by decide +kernel
theorem d_Sea_isLarge_81 : decode prog_7_method_11_code 81 = .ok (.aload_n 0, 1) := by decide +kernel
theorem d_Sea_isLarge_82 : decode prog_7_method_11_code 82 = .ok (.getfield 32, 3) := by decide +kernel
theorem d_Sea_isLarge_85 : decode prog_7_method_11_code 85 = .ok (.iload_n 3, 1) := by decide +kernel
theorem d_Sea_isLarge_86 : decode prog_7_method_11_code 86 = .ok (.iaload, 1) := by decide +kernel
theorem d_Sea_isLarge_87 : decode prog_7_method_11_code 87 = .ok (.iload_n 1, 1) := by decide +kernel
theorem d_Sea_isLarge_88 : decode prog_7_method_11_code 88 = .ok (.invokevirtual 205, 3) := by decide +kernel
theorem d_Sea_isLarge_91 : decode prog_7_method_11_code 91 = .ok (.isub, 1) := by decide +kernel
theorem d_Sea_isLarge_92 : decode prog_7_method_11_code 92 = .ok (.istore_n 1, 1) := by decide +kernel
theorem d_Sea_isLarge_93 : decode prog_7_method_11_code 93 = .ok (.iinc 3 1, 3) := by decide +kernel
theorem d_Sea_isLarge_96 : decode prog_7_method_11_code 96 = .ok (.goto (-32), 3) := by decide +kernel
theorem d_Sea_isLarge_99 : decode prog_7_method_11_code 99 = .ok (.iload_n 1, 1) := by decide +kernel
theorem d_Sea_isLarge_100 : decode prog_7_method_11_code 100 = .ok (.ifCond .ge 7, 3) := by decide +kernel
theorem d_Sea_isLarge_103 : decode prog_7_method_11_code 103 = .ok (.iconst 1, 1) := by decide +kernel
theorem d_Sea_isLarge_104 : decode prog_7_method_11_code 104 = .ok (.goto 4, 3) := by decide +kernel
theorem d_Sea_isLarge_107 : decode prog_7_method_11_code 107 = .ok (.iconst 0, 1) := by decide +kernel
theorem d_Sea_isLarge_108 : decode prog_7_method_11_code 108 = .ok (.ireturn, 1) := by decide +kernel
theorem d_Sea_resolve_0 : decode prog_7_method_10_code 0 = .ok (.aload_n 0, 1) := by decide +kernel
theorem d_Sea_resolve_1 : decode prog_7_method_10_code 1 = .ok (.dup, 1) := by decide +kernel
theorem d_Sea_resolve_2 : decode prog_7_method_10_code 2 = .ok (.getfield 61, 3) := by decide +kernel
theorem d_Sea_resolve_5 : decode prog_7_method_10_code 5 = .ok (.iconst 1, 1) := by decide +kernel
theorem d_Sea_resolve_6 : decode prog_7_method_10_code 6 = .ok (.iadd, 1) := by decide +kernel
theorem d_Sea_resolve_7 : decode prog_7_method_10_code 7 = .ok (.putfield 61, 3) := by decide +kernel
theorem d_Sea_resolve_10 : decode prog_7_method_10_code 10 = .ok (.aload_n 0, 1) := by decide +kernel
theorem d_Sea_resolve_11 : decode prog_7_method_10_code 11 = .ok (.dup, 1) := by decide +kernel
theorem d_Sea_resolve_12 : decode prog_7_method_10_code 12 = .ok (.getfield 64, 3) := by decide +kernel
theorem d_Sea_resolve_15 : decode prog_7_method_10_code 15 = .ok (.iconst 1, 1) := by decide +kernel
theorem d_Sea_resolve_16 : decode prog_7_method_10_code 16 = .ok (.iadd, 1) := by decide +kernel
theorem d_Sea_resolve_17 : decode prog_7_method_10_code 17 = .ok (.putfield 64, 3) := by decide +kernel
theorem d_Sea_resolve_20 : decode prog_7_method_10_code 20 = .ok (.aload_n 0, 1) := by decide +kernel
theorem d_Sea_resolve_21 : decode prog_7_method_10_code 21 = .ok (.getfield 12, 3) := by decide +kernel
theorem d_Sea_resolve_24 : decode prog_7_method_10_code 24 = .ok (.aload_n 0, 1) := by decide +kernel
theorem d_Sea_resolve_25 : decode prog_7_method_10_code 25 = .ok (.getfield 40, 3) := by decide +kernel
theorem d_Sea_resolve_28 : decode prog_7_method_10_code 28 = .ok (.iload_n 1, 1) := by decide +kernel
theorem d_Sea_resolve_29 : decode prog_7_method_10_code 29 = .ok (.invokevirtual 82, 3) := by decide +kernel
theorem d_Sea_resolve_32 : decode prog_7_method_10_code 32 = .ok (.istore_n 2, 1) := by decide +kernel
theorem d_Sea_resolve_33 : decode prog_7_method_10_code 33 = .ok (.aload_n 0, 1) := by decide +kernel
theorem d_Sea_resolve_34 : decode prog_7_method_10_code 34 = .ok (.getfield 12, 3) := by decide +kernel
theorem d_Sea_resolve_37 : decode prog_7_method_10_code 37 = .ok (.aload_n 0, 1) := by decide +kernel
theorem d_Sea_resolve_38 : decode prog_7_method_10_code 38 = .ok (.getfield 128, 3) := by decide +kernel
theorem d_Sea_resolve_41 : decode prog_7_method_10_code 41 = .ok (.iload_n 2, 1) := by decide +kernel
theorem d_Sea_resolve_42 : decode prog_7_method_10_code 42 = .ok (.invokevirtual 190, 3) := by decide +kernel
theorem d_Sea_resolve_45 : decode prog_7_method_10_code 45 = .ok (.ifCond .eq 17, 3) := by decide +kernel
theorem d_Sea_resolve_48 : decode prog_7_method_10_code 48 = .ok (.aload_n 0, 1) := by decide +kernel
theorem d_Sea_resolve_49 : decode prog_7_method_10_code 49 = .ok (.getfield 12, 3) := by decide +kernel
theorem d_Sea_resolve_52 : decode prog_7_method_10_code 52 = .ok (.aload_n 0, 1) := by decide +kernel
theorem d_Sea_resolve_53 : decode prog_7_method_10_code 53 = .ok (.getfield 128, 3) := by decide +kernel
theorem d_Sea_resolve_56 : decode prog_7_method_10_code 56 = .ok (.invokevirtual 194, 3) := by decide +kernel
theorem d_Sea_resolve_59 : decode prog_7_method_10_code 59 = .ok (.ifCond .eq 9, 3) := by decide +kernel
theorem d_Sea_resolve_62 : decode prog_7_method_10_code 62 = .ok (.aload_n 0, 1) := by decide +kernel
theorem d_Sea_resolve_63 : decode prog_7_method_10_code 63 = .ok (.iconst 1, 1) := by decide +kernel
theorem d_Sea_resolve_64 : decode prog_7_method_10_code 64 = .ok (.putfield 57, 3) := by decide +kernel
theorem d_Sea_resolve_67 : decode prog_7_method_10_code 67 = .ok (.return_, 1) := by decide +kernel
theorem d_Sea_resolve_68 : decode prog_7_method_10_code 68 = .ok (.aload_n 0, 1) := by decide +kernel
theorem d_Sea_resolve_69 : decode prog_7_method_10_code 69 = .ok (.getfield 21, 3) := by decide +kernel
theorem d_Sea_resolve_72 : decode prog_7_method_10_code 72 = .ok (.aload_n 0, 1) := by decide +kernel
theorem d_Sea_resolve_73 : decode prog_7_method_10_code 73 = .ok (.getfield 12, 3) := by decide +kernel
theorem d_Sea_resolve_76 : decode prog_7_method_10_code 76 = .ok (.iload_n 2, 1) := by decide +kernel
theorem d_Sea_resolve_77 : decode prog_7_method_10_code 77 = .ok (.aload_n 0, 1) := by decide +kernel
theorem d_Sea_resolve_78 : decode prog_7_method_10_code 78 = .ok (.getfield 12, 3) := by decide +kernel
theorem d_Sea_resolve_81 : decode prog_7_method_10_code 81 = .ok (.iload_n 2, 1) := by decide +kernel
theorem d_Sea_resolve_82 : decode prog_7_method_10_code 82 = .ok (.invokevirtual 198, 3) := by decide +kernel
theorem d_Sea_resolve_85 : decode prog_7_method_10_code 85 = .ok (.iadd, 1) := by decide +kernel
theorem d_Sea_resolve_86 : decode prog_7_method_10_code 86 = .ok (.aload_n 0, 1) := by decide +kernel
theorem d_Sea_resolve_87 : decode prog_7_method_10_code 87 = .ok (.getfield 12, 3) := by decide +kernel
theorem d_Sea_resolve_90 : decode prog_7_method_10_code 90 = .ok (.invokevirtual 86, 3) := by decide +kernel
theorem d_Sea_resolve_93 : decode prog_7_method_10_code 93 = .ok (.aload_n 0, 1) := by decide +kernel
theorem d_Sea_resolve_94 : decode prog_7_method_10_code 94 = .ok (.getfield 134, 3) := by decide +kernel
theorem d_Sea_resolve_97 : decode prog_7_method_10_code 97 = .ok (.invokevirtual 90, 3) := by decide +kernel
theorem d_Sea_resolve_100 : decode prog_7_method_10_code 100 = .ok (.aload_n 0, 1) := by decide +kernel
theorem d_Sea_resolve_101 : decode prog_7_method_10_code 101 = .ok (.invokevirtual 201, 3) := by decide +kernel
theorem d_Sea_resolve_104 : decode prog_7_method_10_code 104 = .ok (.ifCond .eq 8, 3) := by decide +kernel
theorem d_Sea_resolve_107 : decode prog_7_method_10_code 107 = .ok (.aload_n 0, 1) := by decide +kernel
theorem d_Sea_resolve_108 : decode prog_7_method_10_code 108 = .ok (.iconst 4, 1) := by decide +kernel
theorem d_Sea_resolve_109 : decode prog_7_method_10_code 109 = .ok (.putfield 36, 3) := by decide +kernel
theorem d_Sea_resolve_112 : decode prog_7_method_10_code 112 = .ok (.return_, 1) := by decide +kernel
theorem d_Goa_cutOf_0 : decode prog_5_method_8_code 0 = .ok (.iload_n 1, 1) := by decide +kernel
theorem d_Goa_cutOf_1 : decode prog_5_method_8_code 1 = .ok (.ifCond .lt 20, 3) := by decide +kernel
theorem d_Goa_cutOf_4 : decode prog_5_method_8_code 4 = .ok (.iload_n 1, 1) := by decide +kernel
theorem d_Goa_cutOf_5 : decode prog_5_method_8_code 5 = .ok (.aload_n 0, 1) := by decide +kernel
theorem d_Goa_cutOf_6 : decode prog_5_method_8_code 6 = .ok (.getfield 25, 3) := by decide +kernel
theorem d_Goa_cutOf_9 : decode prog_5_method_8_code 9 = .ok (.if_icmp .ge 12, 3) := by decide +kernel
theorem d_Goa_cutOf_12 : decode prog_5_method_8_code 12 = .ok (.aload_n 0, 1) := by decide +kernel
theorem d_Goa_cutOf_13 : decode prog_5_method_8_code 13 = .ok (.getfield 15, 3) := by decide +kernel
theorem d_Goa_cutOf_16 : decode prog_5_method_8_code 16 = .ok (.iload_n 1, 1) := by decide +kernel
theorem d_Goa_cutOf_17 : decode prog_5_method_8_code 17 = .ok (.iaload, 1) := by decide +kernel
theorem d_Goa_cutOf_18 : decode prog_5_method_8_code 18 = .ok (.goto 4, 3) := by decide +kernel
theorem d_Goa_cutOf_21 : decode prog_5_method_8_code 21 = .ok (.iconst 0, 1) := by decide +kernel
theorem d_Goa_cutOf_22 : decode prog_5_method_8_code 22 = .ok (.ireturn, 1) := by decide +kernel
theorem d_Nam_wordOf_0 : decode prog_6_method_3_code 0 = .ok (.iload_n 1, 1) := by decide +kernel
theorem d_Nam_wordOf_1 : decode prog_6_method_3_code 1 = .ok (.bipush 8, 2) := by decide +kernel
theorem d_Nam_wordOf_3 : decode prog_6_method_3_code 3 = .ok (.idiv, 1) := by decide +kernel
theorem d_Nam_wordOf_4 : decode prog_6_method_3_code 4 = .ok (.iconst 3, 1) := by decide +kernel
theorem d_Nam_wordOf_5 : decode prog_6_method_3_code 5 = .ok (.isub, 1) := by decide +kernel
theorem d_Nam_wordOf_6 : decode prog_6_method_3_code 6 = .ok (.istore_n 2, 1) := by decide +kernel
theorem d_Nam_wordOf_7 : decode prog_6_method_3_code 7 = .ok (.iload_n 2, 1) := by decide +kernel
theorem d_Nam_wordOf_8 : decode prog_6_method_3_code 8 = .ok (.ifCond .lt 20, 3) := by decide +kernel
theorem d_Nam_wordOf_11 : decode prog_6_method_3_code 11 = .ok (.iload_n 2, 1) := by decide +kernel
theorem d_Nam_wordOf_12 : decode prog_6_method_3_code 12 = .ok (.aload_n 0, 1) := by decide +kernel
theorem d_Nam_wordOf_13 : decode prog_6_method_3_code 13 = .ok (.getfield 15, 3) := by decide +kernel
theorem d_Nam_wordOf_16 : decode prog_6_method_3_code 16 = .ok (.if_icmp .ge 12, 3) := by decide +kernel
theorem d_Nam_wordOf_19 : decode prog_6_method_3_code 19 = .ok (.aload_n 0, 1) := by decide +kernel
theorem d_Nam_wordOf_20 : decode prog_6_method_3_code 20 = .ok (.getfield 9, 3) := by decide +kernel
theorem d_Nam_wordOf_23 : decode prog_6_method_3_code 23 = .ok (.iload_n 2, 1) := by decide +kernel
theorem d_Nam_wordOf_24 : decode prog_6_method_3_code 24 = .ok (.laload, 1) := by decide +kernel
theorem d_Nam_wordOf_25 : decode prog_6_method_3_code 25 = .ok (.goto 4, 3) := by decide +kernel
theorem d_Nam_wordOf_28 : decode prog_6_method_3_code 28 = .ok (.lconst 0, 1) := by decide +kernel
theorem d_Nam_wordOf_29 : decode prog_6_method_3_code 29 = .ok (.lreturn, 1) := by decide +kernel
theorem d_Goa_heldCount_0 : decode prog_5_method_3_code 0 = .ok (.aload_n 0, 1) := by decide +kernel
theorem d_Goa_heldCount_1 : decode prog_5_method_3_code 1 = .ok (.getfield 25, 3) := by decide +kernel
theorem d_Goa_heldCount_4 : decode prog_5_method_3_code 4 = .ok (.ireturn, 1) := by decide +kernel
theorem d_Ter_changeCount_0 : decode prog_9_method_3_code 0 = .ok (.aload_n 0, 1) := by decide +kernel
theorem d_Ter_changeCount_1 : decode prog_9_method_3_code 1 = .ok (.getfield 37, 3) := by decide +kernel
theorem d_Ter_changeCount_4 : decode prog_9_method_3_code 4 = .ok (.ireturn, 1) := by decide +kernel
theorem d_Cho_put_0 : decode prog_2_method_3_code 0 = .ok (.aload_n 0, 1) := by decide +kernel
theorem d_Cho_put_1 : decode prog_2_method_3_code 1 = .ok (.getfield 30, 3) := by decide +kernel
theorem d_Cho_put_4 : decode prog_2_method_3_code 4 = .ok (.bipush 60, 2) := by decide +kernel
theorem d_Cho_put_6 : decode prog_2_method_3_code 6 = .ok (.if_icmp .ge 81, 3) := by decide +kernel
theorem d_Cho_put_9 : decode prog_2_method_3_code 9 = .ok (.aload_n 0, 1) := by decide +kernel
theorem d_Cho_put_10 : decode prog_2_method_3_code 10 = .ok (.getfield 9, 3) := by decide +kernel
theorem d_Cho_put_13 : decode prog_2_method_3_code 13 = .ok (.aload_n 0, 1) := by decide +kernel
theorem d_Cho_put_14 : decode prog_2_method_3_code 14 = .ok (.getfield 30, 3) := by decide +kernel
theorem d_Cho_put_17 : decode prog_2_method_3_code 17 = .ok (.iload_n 1, 1) := by decide +kernel
theorem d_Cho_put_18 : decode prog_2_method_3_code 18 = .ok (.iastore, 1) := by decide +kernel
theorem d_Cho_put_19 : decode prog_2_method_3_code 19 = .ok (.aload_n 0, 1) := by decide +kernel
theorem d_Cho_put_20 : decode prog_2_method_3_code 20 = .ok (.getfield 15, 3) := by decide +kernel
theorem d_Cho_put_23 : decode prog_2_method_3_code 23 = .ok (.aload_n 0, 1) := by decide +kernel
theorem d_Cho_put_24 : decode prog_2_method_3_code 24 = .ok (.getfield 30, 3) := by decide +kernel
theorem d_Cho_put_27 : decode prog_2_method_3_code 27 = .ok (.iload_n 2, 1) := by decide +kernel
theorem d_Cho_put_28 : decode prog_2_method_3_code 28 = .ok (.iastore, 1) := by decide +kernel
theorem d_Cho_put_29 : decode prog_2_method_3_code 29 = .ok (.aload_n 0, 1) := by decide +kernel
theorem d_Cho_put_30 : decode prog_2_method_3_code 30 = .ok (.getfield 18, 3) := by decide +kernel
theorem d_Cho_put_33 : decode prog_2_method_3_code 33 = .ok (.aload_n 0, 1) := by decide +kernel
theorem d_Cho_put_34 : decode prog_2_method_3_code 34 = .ok (.getfield 30, 3) := by decide +kernel
theorem d_Cho_put_37 : decode prog_2_method_3_code 37 = .ok (.aload_n 3, 1) := by decide +kernel
theorem d_Cho_put_38 : decode prog_2_method_3_code 38 = .ok (.invokevirtual 34, 3) := by decide +kernel
theorem d_Cho_put_41 : decode prog_2_method_3_code 41 = .ok (.iastore, 1) := by decide +kernel
theorem d_Cho_put_42 : decode prog_2_method_3_code 42 = .ok (.aload_n 0, 1) := by decide +kernel
theorem d_Cho_put_43 : decode prog_2_method_3_code 43 = .ok (.getfield 21, 3) := by decide +kernel
theorem d_Cho_put_46 : decode prog_2_method_3_code 46 = .ok (.aload_n 0, 1) := by decide +kernel
theorem d_Cho_put_47 : decode prog_2_method_3_code 47 = .ok (.getfield 30, 3) := by decide +kernel
theorem d_Cho_put_50 : decode prog_2_method_3_code 50 = .ok (.aload_n 3, 1) := by decide +kernel
theorem d_Cho_put_51 : decode prog_2_method_3_code 51 = .ok (.invokevirtual 40, 3) := by decide +kernel
theorem d_Cho_put_54 : decode prog_2_method_3_code 54 = .ok (.iastore, 1) := by decide +kernel
theorem d_Cho_put_55 : decode prog_2_method_3_code 55 = .ok (.aload_n 0, 1) := by decide +kernel
theorem d_Cho_put_56 : decode prog_2_method_3_code 56 = .ok (.getfield 24, 3) := by decide +kernel
theorem d_Cho_put_59 : decode prog_2_method_3_code 59 = .ok (.aload_n 0, 1) := by decide +kernel
theorem d_Cho_put_60 : decode prog_2_method_3_code 60 = .ok (.getfield 30, 3) := by decide +kernel
theorem d_Cho_put_63 : decode prog_2_method_3_code 63 = .ok (.iload 4, 2) := by decide +kernel
theorem d_Cho_put_65 : decode prog_2_method_3_code 65 = .ok (.iastore, 1) := by decide +kernel
theorem d_Cho_put_66 : decode prog_2_method_3_code 66 = .ok (.aload_n 0, 1) := by decide +kernel
theorem d_Cho_put_67 : decode prog_2_method_3_code 67 = .ok (.getfield 27, 3) := by decide +kernel
theorem d_Cho_put_70 : decode prog_2_method_3_code 70 = .ok (.aload_n 0, 1) := by decide +kernel
theorem d_Cho_put_71 : decode prog_2_method_3_code 71 = .ok (.getfield 30, 3) := by decide +kernel
theorem d_Cho_put_74 : decode prog_2_method_3_code 74 = .ok (.iload 5, 2) := by decide +kernel
theorem d_Cho_put_76 : decode prog_2_method_3_code 76 = .ok (.iastore, 1) := by decide +kernel
theorem d_Cho_put_77 : decode prog_2_method_3_code 77 = .ok (.aload_n 0, 1) := by decide +kernel
theorem d_Cho_put_78 : decode prog_2_method_3_code 78 = .ok (.dup, 1) := by decide +kernel
theorem d_Cho_put_79 : decode prog_2_method_3_code 79 = .ok (.getfield 30, 3) := by decide +kernel
theorem d_Cho_put_82 : decode prog_2_method_3_code 82 = .ok (.iconst 1, 1) := by decide +kernel
theorem d_Cho_put_83 : decode prog_2_method_3_code 83 = .ok (.iadd, 1) := by decide +kernel
theorem d_Cho_put_84 : decode prog_2_method_3_code 84 = .ok (.putfield 30, 3) := by decide +kernel
theorem d_Cho_put_87 : decode prog_2_method_3_code 87 = .ok (.return_, 1) := by decide +kernel
theorem d_Sea_choose_0 : decode prog_7_method_8_code 0 = .ok (.aload_n 0, 1) := by decide +kernel
theorem d_Sea_choose_1 : decode prog_7_method_8_code 1 = .ok (.aload_n 0, 1) := by decide +kernel
theorem d_Sea_choose_2 : decode prog_7_method_8_code 2 = .ok (.getfield 28, 3) := by decide +kernel
theorem d_Sea_choose_5 : decode prog_7_method_8_code 5 = .ok (.invokevirtual 104, 3) := by decide +kernel
theorem d_Sea_choose_8 : decode prog_7_method_8_code 8 = .ok (.putfield 134, 3) := by decide +kernel
theorem d_Sea_choose_11 : decode prog_7_method_8_code 11 = .ok (.iload_n 2, 1) := by decide +kernel
theorem d_Sea_choose_12 : decode prog_7_method_8_code 12 = .ok (.invokestatic 165, 3) := by decide +kernel
theorem d_Sea_choose_15 : decode prog_7_method_8_code 15 = .ok (.istore_n 3, 1) := by decide +kernel
theorem d_Sea_choose_16 : decode prog_7_method_8_code 16 = .ok (.iload_n 3, 1) := by decide +kernel
theorem d_Sea_choose_17 : decode prog_7_method_8_code 17 = .ok (.ifCond .eq 27, 3) := by decide +kernel
theorem d_Sea_choose_20 : decode prog_7_method_8_code 20 = .ok (.aload_n 0, 1) := by decide +kernel
theorem d_Sea_choose_21 : decode prog_7_method_8_code 21 = .ok (.getfield 28, 3) := by decide +kernel
theorem d_Sea_choose_24 : decode prog_7_method_8_code 24 = .ok (.iload_n 1, 1) := by decide +kernel
theorem d_Sea_choose_25 : decode prog_7_method_8_code 25 = .ok (.aload_n 0, 1) := by decide +kernel
theorem d_Sea_choose_26 : decode prog_7_method_8_code 26 = .ok (.getfield 21, 3) := by decide +kernel
theorem d_Sea_choose_29 : decode prog_7_method_8_code 29 = .ok (.invokevirtual 168, 3) := by decide +kernel
theorem d_Sea_choose_32 : decode prog_7_method_8_code 32 = .ok (.aload_n 0, 1) := by decide +kernel
theorem d_Sea_choose_33 : decode prog_7_method_8_code 33 = .ok (.getfield 12, 3) := by decide +kernel
theorem d_Sea_choose_36 : decode prog_7_method_8_code 36 = .ok (.aload_n 0, 1) := by decide +kernel
theorem d_Sea_choose_37 : decode prog_7_method_8_code 37 = .ok (.getfield 61, 3) := by decide +kernel
theorem d_Sea_choose_40 : decode prog_7_method_8_code 40 = .ok (.iload_n 3, 1) := by decide +kernel
theorem d_Sea_choose_41 : decode prog_7_method_8_code 41 = .ok (.invokevirtual 171, 3) := by decide +kernel
theorem d_Sea_choose_44 : decode prog_7_method_8_code 44 = .ok (.iload_n 2, 1) := by decide +kernel
theorem d_Sea_choose_45 : decode prog_7_method_8_code 45 = .ok (.invokestatic 175, 3) := by decide +kernel
theorem d_Sea_choose_48 : decode prog_7_method_8_code 48 = .ok (.ireturn, 1) := by decide +kernel
theorem d_Sea_candidates_0 : decode prog_7_method_9_code 0 = .ok (.iload_n 1, 1) := by decide +kernel
theorem d_Sea_candidates_1 : decode prog_7_method_9_code 1 = .ok (.invokestatic 146, 3) := by decide +kernel
theorem d_Sea_candidates_4 : decode prog_7_method_9_code 4 = .ok (.ifCond .ne 7, 3) := by decide +kernel
theorem d_Sea_candidates_7 : decode prog_7_method_9_code 7 = .ok (.iconst 1, 1) := by decide +kernel
theorem d_Sea_candidates_8 : decode prog_7_method_9_code 8 = .ok (.goto 4, 3) := by decide +kernel
theorem d_Sea_candidates_11 : decode prog_7_method_9_code 11 = .ok (.iconst 0, 1) := by decide +kernel
theorem d_Sea_candidates_12 : decode prog_7_method_9_code 12 = .ok (.istore_n 2, 1) := by decide +kernel
theorem d_Sea_candidates_13 : decode prog_7_method_9_code 13 = .ok (.iload_n 2, 1) := by decide +kernel
theorem d_Sea_candidates_14 : decode prog_7_method_9_code 14 = .ok (.ifCond .eq 7, 3) := by decide +kernel
theorem d_Sea_candidates_17 : decode prog_7_method_9_code 17 = .ok (.iconst (-1), 1) := by decide +kernel
theorem d_Sea_candidates_18 : decode prog_7_method_9_code 18 = .ok (.goto 23, 3) := by decide +kernel
theorem d_Sea_candidates_21 : decode prog_7_method_9_code 21 = .ok (.aload_n 0, 1) := by decide +kernel
theorem d_Sea_candidates_22 : decode prog_7_method_9_code 22 = .ok (.getfield 12, 3) := by decide +kernel
theorem d_Sea_candidates_25 : decode prog_7_method_9_code 25 = .ok (.aload_n 0, 1) := by decide +kernel
theorem d_Sea_candidates_26 : decode prog_7_method_9_code 26 = .ok (.getfield 12, 3) := by decide +kernel
theorem d_Sea_candidates_29 : decode prog_7_method_9_code 29 = .ok (.aload_n 0, 1) := by decide +kernel
theorem d_Sea_candidates_30 : decode prog_7_method_9_code 30 = .ok (.getfield 128, 3) := by decide +kernel
theorem d_Sea_candidates_33 : decode prog_7_method_9_code 33 = .ok (.iconst 1, 1) := by decide +kernel
theorem d_Sea_candidates_34 : decode prog_7_method_9_code 34 = .ok (.iadd, 1) := by decide +kernel
theorem d_Sea_candidates_35 : decode prog_7_method_9_code 35 = .ok (.invokevirtual 178, 3) := by decide +kernel
theorem d_Sea_candidates_38 : decode prog_7_method_9_code 38 = .ok (.invokevirtual 140, 3) := by decide +kernel
theorem d_Sea_candidates_41 : decode prog_7_method_9_code 41 = .ok (.istore_n 3, 1) := by decide +kernel
theorem d_Sea_candidates_42 : decode prog_7_method_9_code 42 = .ok (.iconst 0, 1) := by decide +kernel
theorem d_Sea_candidates_43 : decode prog_7_method_9_code 43 = .ok (.istore 4, 2) := by decide +kernel
theorem d_Sea_candidates_45 : decode prog_7_method_9_code 45 = .ok (.iconst 0, 1) := by decide +kernel
theorem d_Sea_candidates_46 : decode prog_7_method_9_code 46 = .ok (.istore 5, 2) := by decide +kernel
theorem d_Sea_candidates_48 : decode prog_7_method_9_code 48 = .ok (.iload 5, 2) := by decide +kernel
theorem d_Sea_candidates_50 : decode prog_7_method_9_code 50 = .ok (.aload_n 0, 1) := by decide +kernel
theorem d_Sea_candidates_51 : decode prog_7_method_9_code 51 = .ok (.getfield 40, 3) := by decide +kernel
theorem d_Sea_candidates_54 : decode prog_7_method_9_code 54 = .ok (.invokevirtual 181, 3) := by decide +kernel
theorem d_Sea_candidates_57 : decode prog_7_method_9_code 57 = .ok (.if_icmp .ge 90, 3) := by decide +kernel
theorem d_Sea_candidates_60 : decode prog_7_method_9_code 60 = .ok (.aload_n 0, 1) := by decide +kernel
theorem d_Sea_candidates_61 : decode prog_7_method_9_code 61 = .ok (.getfield 40, 3) := by decide +kernel
theorem d_Sea_candidates_64 : decode prog_7_method_9_code 64 = .ok (.iload 5, 2) := by decide +kernel
theorem d_Sea_candidates_66 : decode prog_7_method_9_code 66 = .ok (.invokevirtual 186, 3) := by decide +kernel
theorem d_Sea_candidates_69 : decode prog_7_method_9_code 69 = .ok (.istore 6, 2) := by decide +kernel
theorem d_Sea_candidates_71 : decode prog_7_method_9_code 71 = .ok (.iload_n 2, 1) := by decide +kernel
theorem d_Sea_candidates_72 : decode prog_7_method_9_code 72 = .ok (.ifCond .eq 7, 3) := by decide +kernel
theorem d_Sea_candidates_75 : decode prog_7_method_9_code 75 = .ok (.iconst (-1), 1) := by decide +kernel
theorem d_Sea_candidates_76 : decode prog_7_method_9_code 76 = .ok (.goto 14, 3) := by decide +kernel
theorem d_Sea_candidates_79 : decode prog_7_method_9_code 79 = .ok (.aload_n 0, 1) := by decide +kernel
theorem d_Sea_candidates_80 : decode prog_7_method_9_code 80 = .ok (.getfield 40, 3) := by decide +kernel
theorem d_Sea_candidates_83 : decode prog_7_method_9_code 83 = .ok (.iload 6, 2) := by decide +kernel
theorem d_Sea_candidates_85 : decode prog_7_method_9_code 85 = .ok (.iconst 1, 1) := by decide +kernel
theorem d_Sea_candidates_86 : decode prog_7_method_9_code 86 = .ok (.iadd, 1) := by decide +kernel
theorem d_Sea_candidates_87 : decode prog_7_method_9_code 87 = .ok (.invokevirtual 189, 3) := by decide +kernel
theorem d_Sea_candidates_90 : decode prog_7_method_9_code 90 = .ok (.istore 7, 2) := by decide +kernel
theorem d_Sea_candidates_92 : decode prog_7_method_9_code 92 = .ok (.iload_n 3, 1) := by decide +kernel
theorem d_Sea_candidates_93 : decode prog_7_method_9_code 93 = .ok (.ifCond .lt 14, 3) := by decide +kernel
theorem d_Sea_candidates_96 : decode prog_7_method_9_code 96 = .ok (.iload 7, 2) := by decide +kernel
theorem d_Sea_candidates_98 : decode prog_7_method_9_code 98 = .ok (.ifCond .lt 9, 3) := by decide +kernel
theorem d_Sea_candidates_101 : decode prog_7_method_9_code 101 = .ok (.iload_n 3, 1) := by decide +kernel
theorem d_Sea_candidates_102 : decode prog_7_method_9_code 102 = .ok (.iload 7, 2) := by decide +kernel
theorem d_Sea_candidates_104 : decode prog_7_method_9_code 104 = .ok (.if_icmp .ne 7, 3) := by decide +kernel
theorem d_Sea_candidates_107 : decode prog_7_method_9_code 107 = .ok (.iconst 1, 1) := by decide +kernel
theorem d_Sea_candidates_108 : decode prog_7_method_9_code 108 = .ok (.goto 4, 3) := by decide +kernel
theorem d_Sea_candidates_111 : decode prog_7_method_9_code 111 = .ok (.iconst 0, 1) := by decide +kernel
theorem d_Sea_candidates_112 : decode prog_7_method_9_code 112 = .ok (.istore 8, 2) := by decide +kernel
theorem d_Sea_candidates_114 : decode prog_7_method_9_code 114 = .ok (.aload_n 0, 1) := by decide +kernel
theorem d_Sea_candidates_115 : decode prog_7_method_9_code 115 = .ok (.getfield 40, 3) := by decide +kernel
theorem d_Sea_candidates_118 : decode prog_7_method_9_code 118 = .ok (.iload 6, 2) := by decide +kernel
theorem d_Sea_candidates_120 : decode prog_7_method_9_code 120 = .ok (.invokevirtual 189, 3) := by decide +kernel
theorem d_Sea_candidates_123 : decode prog_7_method_9_code 123 = .ok (.iload_n 1, 1) := by decide +kernel
theorem d_Sea_candidates_124 : decode prog_7_method_9_code 124 = .ok (.if_icmp .ne 17, 3) := by decide +kernel
theorem d_Sea_candidates_127 : decode prog_7_method_9_code 127 = .ok (.iload 8, 2) := by decide +kernel
theorem d_Sea_candidates_129 : decode prog_7_method_9_code 129 = .ok (.ifCond .eq 12, 3) := by decide +kernel
theorem d_Sea_candidates_132 : decode prog_7_method_9_code 132 = .ok (.iload 4, 2) := by decide +kernel
theorem d_Sea_candidates_134 : decode prog_7_method_9_code 134 = .ok (.iconst 1, 1) := by decide +kernel
theorem d_Sea_candidates_135 : decode prog_7_method_9_code 135 = .ok (.iload 5, 2) := by decide +kernel
theorem d_Sea_candidates_137 : decode prog_7_method_9_code 137 = .ok (.ishl, 1) := by decide +kernel
theorem d_Sea_candidates_138 : decode prog_7_method_9_code 138 = .ok (.ior, 1) := by decide +kernel
theorem d_Sea_candidates_139 : decode prog_7_method_9_code 139 = .ok (.istore 4, 2) := by decide +kernel
theorem d_Sea_candidates_141 : decode prog_7_method_9_code 141 = .ok (.iinc 5 1, 3) := by decide +kernel
theorem d_Sea_candidates_144 : decode prog_7_method_9_code 144 = .ok (.goto (-96), 3) := by decide +kernel
theorem d_Sea_candidates_147 : decode prog_7_method_9_code 147 = .ok (.iload 4, 2) := by decide +kernel
theorem d_Sea_candidates_149 : decode prog_7_method_9_code 149 = .ok (.ireturn, 1) := by decide +kernel
theorem d_Sea_takeGoal_0 : decode prog_7_method_7_code 0 = .ok (.aload_n 0, 1) := by decide +kernel
theorem d_Sea_takeGoal_1 : decode prog_7_method_7_code 1 = .ok (.getfield 21, 3) := by decide +kernel
theorem d_Sea_takeGoal_4 : decode prog_7_method_7_code 4 = .ok (.invokevirtual 119, 3) := by decide +kernel
theorem d_Sea_takeGoal_7 : decode prog_7_method_7_code 7 = .ok (.istore_n 1, 1) := by decide +kernel
theorem d_Sea_takeGoal_8 : decode prog_7_method_7_code 8 = .ok (.aload_n 0, 1) := by decide +kernel
theorem d_Sea_takeGoal_9 : decode prog_7_method_7_code 9 = .ok (.aload_n 0, 1) := by decide +kernel
theorem d_Sea_takeGoal_10 : decode prog_7_method_7_code 10 = .ok (.getfield 21, 3) := by decide +kernel
theorem d_Sea_takeGoal_13 : decode prog_7_method_7_code 13 = .ok (.iload_n 1, 1) := by decide +kernel
theorem d_Sea_takeGoal_14 : decode prog_7_method_7_code 14 = .ok (.invokevirtual 125, 3) := by decide +kernel
theorem d_Sea_takeGoal_17 : decode prog_7_method_7_code 17 = .ok (.putfield 128, 3) := by decide +kernel
theorem d_Sea_takeGoal_20 : decode prog_7_method_7_code 20 = .ok (.aload_n 0, 1) := by decide +kernel
theorem d_Sea_takeGoal_21 : decode prog_7_method_7_code 21 = .ok (.getfield 21, 3) := by decide +kernel
theorem d_Sea_takeGoal_24 : decode prog_7_method_7_code 24 = .ok (.invokevirtual 131, 3) := by decide +kernel
theorem d_Sea_takeGoal_27 : decode prog_7_method_7_code 27 = .ok (.aload_n 0, 1) := by decide +kernel
theorem d_Sea_takeGoal_28 : decode prog_7_method_7_code 28 = .ok (.getfield 12, 3) := by decide +kernel
theorem d_Sea_takeGoal_31 : decode prog_7_method_7_code 31 = .ok (.aload_n 0, 1) := by decide +kernel
theorem d_Sea_takeGoal_32 : decode prog_7_method_7_code 32 = .ok (.getfield 128, 3) := by decide +kernel
theorem d_Sea_takeGoal_35 : decode prog_7_method_7_code 35 = .ok (.invokevirtual 140, 3) := by decide +kernel
theorem d_Sea_takeGoal_38 : decode prog_7_method_7_code 38 = .ok (.istore_n 2, 1) := by decide +kernel
theorem d_Sea_takeGoal_39 : decode prog_7_method_7_code 39 = .ok (.iload_n 2, 1) := by decide +kernel
theorem d_Sea_takeGoal_40 : decode prog_7_method_7_code 40 = .ok (.bipush 16, 2) := by decide +kernel
theorem d_Sea_takeGoal_42 : decode prog_7_method_7_code 42 = .ok (.if_icmp .ne 20, 3) := by decide +kernel
theorem d_Sea_takeGoal_45 : decode prog_7_method_7_code 45 = .ok (.aload_n 0, 1) := by decide +kernel
theorem d_Sea_takeGoal_46 : decode prog_7_method_7_code 46 = .ok (.getfield 28, 3) := by decide +kernel
theorem d_Sea_takeGoal_49 : decode prog_7_method_7_code 49 = .ok (.aload_n 0, 1) := by decide +kernel
theorem d_Sea_takeGoal_50 : decode prog_7_method_7_code 50 = .ok (.getfield 21, 3) := by decide +kernel
theorem d_Sea_takeGoal_53 : decode prog_7_method_7_code 53 = .ok (.iload_n 1, 1) := by decide +kernel
theorem d_Sea_takeGoal_54 : decode prog_7_method_7_code 54 = .ok (.invokevirtual 143, 3) := by decide +kernel
theorem d_Sea_takeGoal_57 : decode prog_7_method_7_code 57 = .ok (.invokevirtual 70, 3) := by decide +kernel
theorem d_Sea_takeGoal_60 : decode prog_7_method_7_code 60 = .ok (.iconst (-1), 1) := by decide +kernel
theorem d_Sea_takeGoal_61 : decode prog_7_method_7_code 61 = .ok (.ireturn, 1) := by decide +kernel
theorem d_Sea_takeGoal_62 : decode prog_7_method_7_code 62 = .ok (.iload_n 2, 1) := by decide +kernel
theorem d_Sea_takeGoal_63 : decode prog_7_method_7_code 63 = .ok (.invokestatic 146, 3) := by decide +kernel
theorem d_Sea_takeGoal_66 : decode prog_7_method_7_code 66 = .ok (.ifCond .ne 7, 3) := by decide +kernel
theorem d_Sea_takeGoal_69 : decode prog_7_method_7_code 69 = .ok (.iconst 1, 1) := by decide +kernel
theorem d_Sea_takeGoal_70 : decode prog_7_method_7_code 70 = .ok (.goto 4, 3) := by decide +kernel
theorem d_Sea_takeGoal_73 : decode prog_7_method_7_code 73 = .ok (.iconst 0, 1) := by decide +kernel
theorem d_Sea_takeGoal_74 : decode prog_7_method_7_code 74 = .ok (.istore_n 3, 1) := by decide +kernel
theorem d_Sea_takeGoal_75 : decode prog_7_method_7_code 75 = .ok (.iload_n 3, 1) := by decide +kernel
theorem d_Sea_takeGoal_76 : decode prog_7_method_7_code 76 = .ok (.ifCond .eq 20, 3) := by decide +kernel
theorem d_Sea_takeGoal_79 : decode prog_7_method_7_code 79 = .ok (.aload_n 0, 1) := by decide +kernel
theorem d_Sea_takeGoal_80 : decode prog_7_method_7_code 80 = .ok (.getfield 44, 3) := by decide +kernel
theorem d_Sea_takeGoal_83 : decode prog_7_method_7_code 83 = .ok (.iload_n 2, 1) := by decide +kernel
theorem d_Sea_takeGoal_84 : decode prog_7_method_7_code 84 = .ok (.invokevirtual 149, 3) := by decide +kernel
theorem d_Sea_takeGoal_87 : decode prog_7_method_7_code 87 = .ok (.ldc2_w 155, 3) := by decide +kernel
theorem d_Sea_takeGoal_90 : decode prog_7_method_7_code 90 = .ok (.lcmp, 1) := by decide +kernel
theorem d_Sea_takeGoal_91 : decode prog_7_method_7_code 91 = .ok (.ifCond .ne 5, 3) := by decide +kernel
theorem d_Sea_takeGoal_94 : decode prog_7_method_7_code 94 = .ok (.iconst (-1), 1) := by decide +kernel
theorem d_Sea_takeGoal_95 : decode prog_7_method_7_code 95 = .ok (.ireturn, 1) := by decide +kernel
theorem d_Sea_takeGoal_96 : decode prog_7_method_7_code 96 = .ok (.iload_n 3, 1) := by decide +kernel
theorem d_Sea_takeGoal_97 : decode prog_7_method_7_code 97 = .ok (.ifCond .eq 22, 3) := by decide +kernel
theorem d_Sea_takeGoal_100 : decode prog_7_method_7_code 100 = .ok (.aload_n 0, 1) := by decide +kernel
theorem d_Sea_takeGoal_101 : decode prog_7_method_7_code 101 = .ok (.getfield 44, 3) := by decide +kernel
theorem d_Sea_takeGoal_104 : decode prog_7_method_7_code 104 = .ok (.iload_n 2, 1) := by decide +kernel
theorem d_Sea_takeGoal_105 : decode prog_7_method_7_code 105 = .ok (.invokevirtual 149, 3) := by decide +kernel
theorem d_Sea_takeGoal_108 : decode prog_7_method_7_code 108 = .ok (.ldc2_w 157, 3) := by decide +kernel
theorem d_Sea_takeGoal_111 : decode prog_7_method_7_code 111 = .ok (.lcmp, 1) := by decide +kernel
theorem d_Sea_takeGoal_112 : decode prog_7_method_7_code 112 = .ok (.ifCond .ne 7, 3) := by decide +kernel
theorem d_Sea_takeGoal_115 : decode prog_7_method_7_code 115 = .ok (.iconst 0, 1) := by decide +kernel
theorem d_Sea_takeGoal_116 : decode prog_7_method_7_code 116 = .ok (.goto 8, 3) := by decide +kernel
theorem d_Sea_takeGoal_119 : decode prog_7_method_7_code 119 = .ok (.aload_n 0, 1) := by decide +kernel
theorem d_Sea_takeGoal_120 : decode prog_7_method_7_code 120 = .ok (.iload_n 2, 1) := by decide +kernel
theorem d_Sea_takeGoal_121 : decode prog_7_method_7_code 121 = .ok (.invokevirtual 159, 3) := by decide +kernel
theorem d_Sea_takeGoal_124 : decode prog_7_method_7_code 124 = .ok (.istore 4, 2) := by decide +kernel
theorem d_Sea_takeGoal_126 : decode prog_7_method_7_code 126 = .ok (.iload 4, 2) := by decide +kernel
theorem d_Sea_takeGoal_128 : decode prog_7_method_7_code 128 = .ok (.ifCond .ne 10, 3) := by decide +kernel
theorem d_Sea_takeGoal_131 : decode prog_7_method_7_code 131 = .ok (.aload_n 0, 1) := by decide +kernel
theorem d_Sea_takeGoal_132 : decode prog_7_method_7_code 132 = .ok (.iconst 1, 1) := by decide +kernel
theorem d_Sea_takeGoal_133 : decode prog_7_method_7_code 133 = .ok (.putfield 57, 3) := by decide +kernel
theorem d_Sea_takeGoal_136 : decode prog_7_method_7_code 136 = .ok (.iconst (-1), 1) := by decide +kernel
theorem d_Sea_takeGoal_137 : decode prog_7_method_7_code 137 = .ok (.ireturn, 1) := by decide +kernel
theorem d_Sea_takeGoal_138 : decode prog_7_method_7_code 138 = .ok (.aload_n 0, 1) := by decide +kernel
theorem d_Sea_takeGoal_139 : decode prog_7_method_7_code 139 = .ok (.getfield 61, 3) := by decide +kernel
theorem d_Sea_takeGoal_142 : decode prog_7_method_7_code 142 = .ok (.bipush 60, 2) := by decide +kernel
theorem d_Sea_takeGoal_144 : decode prog_7_method_7_code 144 = .ok (.if_icmp .ne 10, 3) := by decide +kernel
theorem d_Sea_takeGoal_147 : decode prog_7_method_7_code 147 = .ok (.aload_n 0, 1) := by decide +kernel
theorem d_Sea_takeGoal_148 : decode prog_7_method_7_code 148 = .ok (.iconst 3, 1) := by decide +kernel
theorem d_Sea_takeGoal_149 : decode prog_7_method_7_code 149 = .ok (.putfield 36, 3) := by decide +kernel
theorem d_Sea_takeGoal_152 : decode prog_7_method_7_code 152 = .ok (.iconst (-1), 1) := by decide +kernel
theorem d_Sea_takeGoal_153 : decode prog_7_method_7_code 153 = .ok (.ireturn, 1) := by decide +kernel
theorem d_Sea_takeGoal_154 : decode prog_7_method_7_code 154 = .ok (.aload_n 0, 1) := by decide +kernel
theorem d_Sea_takeGoal_155 : decode prog_7_method_7_code 155 = .ok (.iload_n 1, 1) := by decide +kernel
theorem d_Sea_takeGoal_156 : decode prog_7_method_7_code 156 = .ok (.iload 4, 2) := by decide +kernel
theorem d_Sea_takeGoal_158 : decode prog_7_method_7_code 158 = .ok (.invokevirtual 162, 3) := by decide +kernel
theorem d_Sea_takeGoal_161 : decode prog_7_method_7_code 161 = .ok (.ireturn, 1) := by decide +kernel
theorem d_Sea_step_0 : decode prog_7_method_5_code 0 = .ok (.aload_n 0, 1) := by decide +kernel
theorem d_Sea_step_1 : decode prog_7_method_5_code 1 = .ok (.getfield 57, 3) := by decide +kernel
theorem d_Sea_step_4 : decode prog_7_method_5_code 4 = .ok (.ifCond .eq 10, 3) := by decide +kernel
theorem d_Sea_step_7 : decode prog_7_method_5_code 7 = .ok (.aload_n 0, 1) := by decide +kernel
theorem d_Sea_step_8 : decode prog_7_method_5_code 8 = .ok (.invokevirtual 110, 3) := by decide +kernel
theorem d_Sea_step_11 : decode prog_7_method_5_code 11 = .ok (.goto 7, 3) := by decide +kernel
theorem d_Sea_step_14 : decode prog_7_method_5_code 14 = .ok (.aload_n 0, 1) := by decide +kernel
theorem d_Sea_step_15 : decode prog_7_method_5_code 15 = .ok (.invokevirtual 113, 3) := by decide +kernel
theorem d_Sea_step_18 : decode prog_7_method_5_code 18 = .ok (.istore_n 1, 1) := by decide +kernel
theorem d_Sea_step_19 : decode prog_7_method_5_code 19 = .ok (.iload_n 1, 1) := by decide +kernel
theorem d_Sea_step_20 : decode prog_7_method_5_code 20 = .ok (.iconst (-1), 1) := by decide +kernel
theorem d_Sea_step_21 : decode prog_7_method_5_code 21 = .ok (.if_icmp .eq 8, 3) := by decide +kernel
theorem d_Sea_step_24 : decode prog_7_method_5_code 24 = .ok (.aload_n 0, 1) := by decide +kernel
theorem d_Sea_step_25 : decode prog_7_method_5_code 25 = .ok (.iload_n 1, 1) := by decide +kernel
theorem d_Sea_step_26 : decode prog_7_method_5_code 26 = .ok (.invokevirtual 116, 3) := by decide +kernel
theorem d_Sea_step_29 : decode prog_7_method_5_code 29 = .ok (.aload_n 0, 1) := by decide +kernel
theorem d_Sea_step_30 : decode prog_7_method_5_code 30 = .ok (.getfield 36, 3) := by decide +kernel
theorem d_Sea_step_33 : decode prog_7_method_5_code 33 = .ok (.iconst 2, 1) := by decide +kernel
theorem d_Sea_step_34 : decode prog_7_method_5_code 34 = .ok (.if_icmp .eq 4, 3) := by decide +kernel
theorem d_Sea_step_37 : decode prog_7_method_5_code 37 = .ok (.return_, 1) := by decide +kernel
theorem d_Sea_step_38 : decode prog_7_method_5_code 38 = .ok (.aload_n 0, 1) := by decide +kernel
theorem d_Sea_step_39 : decode prog_7_method_5_code 39 = .ok (.getfield 57, 3) := by decide +kernel
theorem d_Sea_step_42 : decode prog_7_method_5_code 42 = .ok (.ifCond .eq 21, 3) := by decide +kernel
theorem d_Sea_step_45 : decode prog_7_method_5_code 45 = .ok (.aload_n 0, 1) := by decide +kernel
theorem d_Sea_step_46 : decode prog_7_method_5_code 46 = .ok (.getfield 28, 3) := by decide +kernel
theorem d_Sea_step_49 : decode prog_7_method_5_code 49 = .ok (.invokevirtual 104, 3) := by decide +kernel
theorem d_Sea_step_52 : decode prog_7_method_5_code 52 = .ok (.ifCond .ne 11, 3) := by decide +kernel
theorem d_Sea_step_55 : decode prog_7_method_5_code 55 = .ok (.aload_n 0, 1) := by decide +kernel
theorem d_Sea_step_56 : decode prog_7_method_5_code 56 = .ok (.iconst 0, 1) := by decide +kernel
theorem d_Sea_step_57 : decode prog_7_method_5_code 57 = .ok (.putfield 36, 3) := by decide +kernel
theorem d_Sea_step_60 : decode prog_7_method_5_code 60 = .ok (.goto 26, 3) := by decide +kernel
theorem d_Sea_step_63 : decode prog_7_method_5_code 63 = .ok (.aload_n 0, 1) := by decide +kernel
theorem d_Sea_step_64 : decode prog_7_method_5_code 64 = .ok (.getfield 57, 3) := by decide +kernel
theorem d_Sea_step_67 : decode prog_7_method_5_code 67 = .ok (.ifCond .ne 19, 3) := by decide +kernel
theorem d_Sea_step_70 : decode prog_7_method_5_code 70 = .ok (.aload_n 0, 1) := by decide +kernel
theorem d_Sea_step_71 : decode prog_7_method_5_code 71 = .ok (.getfield 21, 3) := by decide +kernel
theorem d_Sea_step_74 : decode prog_7_method_5_code 74 = .ok (.invokevirtual 119, 3) := by decide +kernel
theorem d_Sea_step_77 : decode prog_7_method_5_code 77 = .ok (.iconst (-1), 1) := by decide +kernel
theorem d_Sea_step_78 : decode prog_7_method_5_code 78 = .ok (.if_icmp .ne 8, 3) := by decide +kernel
theorem d_Sea_step_81 : decode prog_7_method_5_code 81 = .ok (.aload_n 0, 1) := by decide +kernel
theorem d_Sea_step_82 : decode prog_7_method_5_code 82 = .ok (.iconst 1, 1) := by decide +kernel
theorem d_Sea_step_83 : decode prog_7_method_5_code 83 = .ok (.putfield 36, 3) := by decide +kernel
theorem d_Sea_step_86 : decode prog_7_method_5_code 86 = .ok (.return_, 1) := by decide +kernel
theorem d_Sea_goOn_0 : decode prog_7_method_4_code 0 = .ok (.aload_n 0, 1) := by decide +kernel
theorem d_Sea_goOn_1 : decode prog_7_method_4_code 1 = .ok (.getfield 36, 3) := by decide +kernel
theorem d_Sea_goOn_4 : decode prog_7_method_4_code 4 = .ok (.iconst 1, 1) := by decide +kernel
theorem d_Sea_goOn_5 : decode prog_7_method_4_code 5 = .ok (.if_icmp .ne 34, 3) := by decide +kernel
theorem d_Sea_goOn_8 : decode prog_7_method_4_code 8 = .ok (.aload_n 0, 1) := by decide +kernel
theorem d_Sea_goOn_9 : decode prog_7_method_4_code 9 = .ok (.iconst 1, 1) := by decide +kernel
theorem d_Sea_goOn_10 : decode prog_7_method_4_code 10 = .ok (.putfield 57, 3) := by decide +kernel
theorem d_Sea_goOn_13 : decode prog_7_method_4_code 13 = .ok (.aload_n 0, 1) := by decide +kernel
theorem d_Sea_goOn_14 : decode prog_7_method_4_code 14 = .ok (.aload_n 0, 1) := by decide +kernel
theorem d_Sea_goOn_15 : decode prog_7_method_4_code 15 = .ok (.getfield 28, 3) := by decide +kernel
theorem d_Sea_goOn_18 : decode prog_7_method_4_code 18 = .ok (.invokevirtual 104, 3) := by decide +kernel
theorem d_Sea_goOn_21 : decode prog_7_method_4_code 21 = .ok (.ifCond .ne 7, 3) := by decide +kernel
theorem d_Sea_goOn_24 : decode prog_7_method_4_code 24 = .ok (.iconst 0, 1) := by decide +kernel
theorem d_Sea_goOn_25 : decode prog_7_method_4_code 25 = .ok (.goto 4, 3) := by decide +kernel
theorem d_Sea_goOn_28 : decode prog_7_method_4_code 28 = .ok (.iconst 2, 1) := by decide +kernel
theorem d_Sea_goOn_29 : decode prog_7_method_4_code 29 = .ok (.putfield 36, 3) := by decide +kernel
theorem d_Sea_goOn_32 : decode prog_7_method_4_code 32 = .ok (.aload_n 0, 1) := by decide +kernel
theorem d_Sea_goOn_33 : decode prog_7_method_4_code 33 = .ok (.getfield 53, 3) := by decide +kernel
theorem d_Sea_goOn_36 : decode prog_7_method_4_code 36 = .ok (.invokevirtual 79, 3) := by decide +kernel
theorem d_Sea_goOn_39 : decode prog_7_method_4_code 39 = .ok (.iconst 0, 1) := by decide +kernel
theorem d_Sea_goOn_40 : decode prog_7_method_4_code 40 = .ok (.istore_n 2, 1) := by decide +kernel
theorem d_Sea_goOn_41 : decode prog_7_method_4_code 41 = .ok (.iload_n 2, 1) := by decide +kernel
theorem d_Sea_goOn_42 : decode prog_7_method_4_code 42 = .ok (.iload_n 1, 1) := by decide +kernel
theorem d_Sea_goOn_43 : decode prog_7_method_4_code 43 = .ok (.if_icmp .ge 21, 3) := by decide +kernel
theorem d_Sea_goOn_46 : decode prog_7_method_4_code 46 = .ok (.aload_n 0, 1) := by decide +kernel
theorem d_Sea_goOn_47 : decode prog_7_method_4_code 47 = .ok (.getfield 36, 3) := by decide +kernel
theorem d_Sea_goOn_50 : decode prog_7_method_4_code 50 = .ok (.iconst 2, 1) := by decide +kernel
theorem d_Sea_goOn_51 : decode prog_7_method_4_code 51 = .ok (.if_icmp .ne 13, 3) := by decide +kernel
theorem d_Sea_goOn_54 : decode prog_7_method_4_code 54 = .ok (.aload_n 0, 1) := by decide +kernel
theorem d_Sea_goOn_55 : decode prog_7_method_4_code 55 = .ok (.invokevirtual 107, 3) := by decide +kernel
theorem d_Sea_goOn_58 : decode prog_7_method_4_code 58 = .ok (.iinc 2 1, 3) := by decide +kernel
theorem d_Sea_goOn_61 : decode prog_7_method_4_code 61 = .ok (.goto (-20), 3) := by decide +kernel
theorem d_Sea_goOn_64 : decode prog_7_method_4_code 64 = .ok (.aload_n 0, 1) := by decide +kernel
theorem d_Sea_goOn_65 : decode prog_7_method_4_code 65 = .ok (.getfield 36, 3) := by decide +kernel
theorem d_Sea_goOn_68 : decode prog_7_method_4_code 68 = .ok (.ireturn, 1) := by decide +kernel
theorem d_P_run_0 : decode prog_1_method_5_code 0 = .ok (.iload_n 1, 1) := by decide +kernel
theorem d_P_run_1 : decode prog_1_method_5_code 1 = .ok (.iconst 1, 1) := by decide +kernel
theorem d_P_run_2 : decode prog_1_method_5_code 2 = .ok (.if_icmp .lt 9, 3) := by decide +kernel
theorem d_P_run_5 : decode prog_1_method_5_code 5 = .ok (.iload_n 1, 1) := by decide +kernel
theorem d_P_run_6 : decode prog_1_method_5_code 6 = .ok (.bipush 100, 2) := by decide +kernel
theorem d_P_run_8 : decode prog_1_method_5_code 8 = .ok (.if_icmp .le 5, 3) := by decide +kernel
theorem d_P_run_11 : decode prog_1_method_5_code 11 = .ok (.iconst (-1), 1) := by decide +kernel
theorem d_P_run_12 : decode prog_1_method_5_code 12 = .ok (.ireturn, 1) := by decide +kernel
theorem d_P_run_13 : decode prog_1_method_5_code 13 = .ok (.aload_n 0, 1) := by decide +kernel
theorem d_P_run_14 : decode prog_1_method_5_code 14 = .ok (.getfield 46, 3) := by decide +kernel
theorem d_P_run_17 : decode prog_1_method_5_code 17 = .ok (.iload_n 1, 1) := by decide +kernel
theorem d_P_run_18 : decode prog_1_method_5_code 18 = .ok (.invokevirtual 84, 3) := by decide +kernel
theorem d_P_run_21 : decode prog_1_method_5_code 21 = .ok (.ireturn, 1) := by decide +kernel
theorem d_Wri_isDone_0 : decode prog_8_method_3_code 0 = .ok (.aload_n 0, 1) := by decide +kernel
theorem d_Wri_isDone_1 : decode prog_8_method_3_code 1 = .ok (.getfield 40, 3) := by decide +kernel
theorem d_Wri_isDone_4 : decode prog_8_method_3_code 4 = .ok (.ireturn, 1) := by decide +kernel
theorem d_Wri_push_0 : decode prog_8_method_14_code 0 = .ok (.aload_n 0, 1) := by decide +kernel
theorem d_Wri_push_1 : decode prog_8_method_14_code 1 = .ok (.getfield 51, 3) := by decide +kernel
theorem d_Wri_push_4 : decode prog_8_method_14_code 4 = .ok (.sipush 512, 3) := by decide +kernel
theorem d_Wri_push_7 : decode prog_8_method_14_code 7 = .ok (.if_icmp .ge 27, 3) := by decide +kernel
theorem d_Wri_push_10 : decode prog_8_method_14_code 10 = .ok (.aload_n 0, 1) := by decide +kernel
theorem d_Wri_push_11 : decode prog_8_method_14_code 11 = .ok (.getfield 22, 3) := by decide +kernel
theorem d_Wri_push_14 : decode prog_8_method_14_code 14 = .ok (.aload_n 0, 1) := by decide +kernel
theorem d_Wri_push_15 : decode prog_8_method_14_code 15 = .ok (.getfield 51, 3) := by decide +kernel
theorem d_Wri_push_18 : decode prog_8_method_14_code 18 = .ok (.iload_n 2, 1) := by decide +kernel
theorem d_Wri_push_19 : decode prog_8_method_14_code 19 = .ok (.iconst 4, 1) := by decide +kernel
theorem d_Wri_push_20 : decode prog_8_method_14_code 20 = .ok (.imul, 1) := by decide +kernel
theorem d_Wri_push_21 : decode prog_8_method_14_code 21 = .ok (.iload_n 1, 1) := by decide +kernel
theorem d_Wri_push_22 : decode prog_8_method_14_code 22 = .ok (.iadd, 1) := by decide +kernel
theorem d_Wri_push_23 : decode prog_8_method_14_code 23 = .ok (.iastore, 1) := by decide +kernel
theorem d_Wri_push_24 : decode prog_8_method_14_code 24 = .ok (.aload_n 0, 1) := by decide +kernel
theorem d_Wri_push_25 : decode prog_8_method_14_code 25 = .ok (.dup, 1) := by decide +kernel
theorem d_Wri_push_26 : decode prog_8_method_14_code 26 = .ok (.getfield 51, 3) := by decide +kernel
theorem d_Wri_push_29 : decode prog_8_method_14_code 29 = .ok (.iconst 1, 1) := by decide +kernel
theorem d_Wri_push_30 : decode prog_8_method_14_code 30 = .ok (.iadd, 1) := by decide +kernel
theorem d_Wri_push_31 : decode prog_8_method_14_code 31 = .ok (.putfield 51, 3) := by decide +kernel
theorem d_Wri_push_34 : decode prog_8_method_14_code 34 = .ok (.return_, 1) := by decide +kernel
theorem d_Wri_put_0 : decode prog_8_method_13_code 0 = .ok (.aload_n 0, 1) := by decide +kernel
theorem d_Wri_put_1 : decode prog_8_method_13_code 1 = .ok (.getfield 33, 3) := by decide +kernel
theorem d_Wri_put_4 : decode prog_8_method_13_code 4 = .ok (.sipush 1200, 3) := by decide +kernel
theorem d_Wri_put_7 : decode prog_8_method_13_code 7 = .ok (.if_icmp .ge 23, 3) := by decide +kernel
theorem d_Wri_put_10 : decode prog_8_method_13_code 10 = .ok (.aload_n 0, 1) := by decide +kernel
theorem d_Wri_put_11 : decode prog_8_method_13_code 11 = .ok (.getfield 11, 3) := by decide +kernel
theorem d_Wri_put_14 : decode prog_8_method_13_code 14 = .ok (.aload_n 0, 1) := by decide +kernel
theorem d_Wri_put_15 : decode prog_8_method_13_code 15 = .ok (.getfield 33, 3) := by decide +kernel
theorem d_Wri_put_18 : decode prog_8_method_13_code 18 = .ok (.iload_n 1, 1) := by decide +kernel
theorem d_Wri_put_19 : decode prog_8_method_13_code 19 = .ok (.castore, 1) := by decide +kernel
theorem d_Wri_put_20 : decode prog_8_method_13_code 20 = .ok (.aload_n 0, 1) := by decide +kernel
theorem d_Wri_put_21 : decode prog_8_method_13_code 21 = .ok (.dup, 1) := by decide +kernel
theorem d_Wri_put_22 : decode prog_8_method_13_code 22 = .ok (.getfield 33, 3) := by decide +kernel
theorem d_Wri_put_25 : decode prog_8_method_13_code 25 = .ok (.iconst 1, 1) := by decide +kernel
theorem d_Wri_put_26 : decode prog_8_method_13_code 26 = .ok (.iadd, 1) := by decide +kernel
theorem d_Wri_put_27 : decode prog_8_method_13_code 27 = .ok (.putfield 33, 3) := by decide +kernel
theorem d_Wri_put_30 : decode prog_8_method_13_code 30 = .ok (.return_, 1) := by decide +kernel
theorem d_Wri_writeVariable_0 : decode prog_8_method_12_code 0 = .ok (.iconst 0, 1) := by decide +kernel
theorem d_Wri_writeVariable_1 : decode prog_8_method_12_code 1 = .ok (.istore_n 2, 1) := by decide +kernel
theorem d_Wri_writeVariable_2 : decode prog_8_method_12_code 2 = .ok (.iload_n 2, 1) := by decide +kernel
theorem d_Wri_writeVariable_3 : decode prog_8_method_12_code 3 = .ok (.aload_n 0, 1) := by decide +kernel
theorem d_Wri_writeVariable_4 : decode prog_8_method_12_code 4 = .ok (.getfield 37, 3) := by decide +kernel
theorem d_Wri_writeVariable_7 : decode prog_8_method_12_code 7 = .ok (.if_icmp .ge 19, 3) := by decide +kernel
theorem d_Wri_writeVariable_10 : decode prog_8_method_12_code 10 = .ok (.aload_n 0, 1) := by decide +kernel
theorem d_Wri_writeVariable_11 : decode prog_8_method_12_code 11 = .ok (.getfield 19, 3) := by decide +kernel
theorem d_Wri_writeVariable_14 : decode prog_8_method_12_code 14 = .ok (.iload_n 2, 1) := by decide +kernel
theorem d_Wri_writeVariable_15 : decode prog_8_method_12_code 15 = .ok (.iaload, 1) := by decide +kernel
theorem d_Wri_writeVariable_16 : decode prog_8_method_12_code 16 = .ok (.iload_n 1, 1) := by decide +kernel
theorem d_Wri_writeVariable_17 : decode prog_8_method_12_code 17 = .ok (.if_icmp .eq 9, 3) := by decide +kernel
theorem d_Wri_writeVariable_20 : decode prog_8_method_12_code 20 = .ok (.iinc 2 1, 3) := by decide +kernel
theorem d_Wri_writeVariable_23 : decode prog_8_method_12_code 23 = .ok (.goto (-21), 3) := by decide +kernel
theorem d_Wri_writeVariable_26 : decode prog_8_method_12_code 26 = .ok (.iload_n 2, 1) := by decide +kernel
theorem d_Wri_writeVariable_27 : decode prog_8_method_12_code 27 = .ok (.aload_n 0, 1) := by decide +kernel
theorem d_Wri_writeVariable_28 : decode prog_8_method_12_code 28 = .ok (.getfield 37, 3) := by decide +kernel
theorem d_Wri_writeVariable_31 : decode prog_8_method_12_code 31 = .ok (.if_icmp .ne 32, 3) := by decide +kernel
theorem d_Wri_writeVariable_34 : decode prog_8_method_12_code 34 = .ok (.aload_n 0, 1) := by decide +kernel
theorem d_Wri_writeVariable_35 : decode prog_8_method_12_code 35 = .ok (.getfield 37, 3) := by decide +kernel
theorem d_Wri_writeVariable_38 : decode prog_8_method_12_code 38 = .ok (.bipush 120, 2) := by decide +kernel
theorem d_Wri_writeVariable_40 : decode prog_8_method_12_code 40 = .ok (.if_icmp .ge 23, 3) := by decide +kernel
theorem d_Wri_writeVariable_43 : decode prog_8_method_12_code 43 = .ok (.aload_n 0, 1) := by decide +kernel
theorem d_Wri_writeVariable_44 : decode prog_8_method_12_code 44 = .ok (.getfield 19, 3) := by decide +kernel
theorem d_Wri_writeVariable_47 : decode prog_8_method_12_code 47 = .ok (.aload_n 0, 1) := by decide +kernel
theorem d_Wri_writeVariable_48 : decode prog_8_method_12_code 48 = .ok (.getfield 37, 3) := by decide +kernel
theorem d_Wri_writeVariable_51 : decode prog_8_method_12_code 51 = .ok (.iload_n 1, 1) := by decide +kernel
theorem d_Wri_writeVariable_52 : decode prog_8_method_12_code 52 = .ok (.iastore, 1) := by decide +kernel
theorem d_Wri_writeVariable_53 : decode prog_8_method_12_code 53 = .ok (.aload_n 0, 1) := by decide +kernel
theorem d_Wri_writeVariable_54 : decode prog_8_method_12_code 54 = .ok (.dup, 1) := by decide +kernel
theorem d_Wri_writeVariable_55 : decode prog_8_method_12_code 55 = .ok (.getfield 37, 3) := by decide +kernel
theorem d_Wri_writeVariable_58 : decode prog_8_method_12_code 58 = .ok (.iconst 1, 1) := by decide +kernel
theorem d_Wri_writeVariable_59 : decode prog_8_method_12_code 59 = .ok (.iadd, 1) := by decide +kernel
theorem d_Wri_writeVariable_60 : decode prog_8_method_12_code 60 = .ok (.putfield 37, 3) := by decide +kernel
theorem d_Wri_writeVariable_63 : decode prog_8_method_12_code 63 = .ok (.aload_n 0, 1) := by decide +kernel
theorem d_Wri_writeVariable_64 : decode prog_8_method_12_code 64 = .ok (.bipush 95, 2) := by decide +kernel
theorem d_Wri_writeVariable_66 : decode prog_8_method_12_code 66 = .ok (.invokevirtual 59, 3) := by decide +kernel
theorem d_Wri_writeVariable_69 : decode prog_8_method_12_code 69 = .ok (.iload_n 2, 1) := by decide +kernel
theorem d_Wri_writeVariable_70 : decode prog_8_method_12_code 70 = .ok (.bipush 10, 2) := by decide +kernel
theorem d_Wri_writeVariable_72 : decode prog_8_method_12_code 72 = .ok (.if_icmp .lt 15, 3) := by decide +kernel
theorem d_Wri_writeVariable_75 : decode prog_8_method_12_code 75 = .ok (.aload_n 0, 1) := by decide +kernel
theorem d_Wri_writeVariable_76 : decode prog_8_method_12_code 76 = .ok (.bipush 48, 2) := by decide +kernel
theorem d_Wri_writeVariable_78 : decode prog_8_method_12_code 78 = .ok (.iload_n 2, 1) := by decide +kernel
theorem d_Wri_writeVariable_79 : decode prog_8_method_12_code 79 = .ok (.bipush 10, 2) := by decide +kernel
theorem d_Wri_writeVariable_81 : decode prog_8_method_12_code 81 = .ok (.idiv, 1) := by decide +kernel
theorem d_Wri_writeVariable_82 : decode prog_8_method_12_code 82 = .ok (.iadd, 1) := by decide +kernel
theorem d_Wri_writeVariable_83 : decode prog_8_method_12_code 83 = .ok (.i2c, 1) := by decide +kernel
theorem d_Wri_writeVariable_84 : decode prog_8_method_12_code 84 = .ok (.invokevirtual 59, 3) := by decide +kernel
theorem d_Wri_writeVariable_87 : decode prog_8_method_12_code 87 = .ok (.aload_n 0, 1) := by decide +kernel
theorem d_Wri_writeVariable_88 : decode prog_8_method_12_code 88 = .ok (.bipush 48, 2) := by decide +kernel
theorem d_Wri_writeVariable_90 : decode prog_8_method_12_code 90 = .ok (.iload_n 2, 1) := by decide +kernel
theorem d_Wri_writeVariable_91 : decode prog_8_method_12_code 91 = .ok (.bipush 10, 2) := by decide +kernel
theorem d_Wri_writeVariable_93 : decode prog_8_method_12_code 93 = .ok (.irem, 1) := by decide +kernel
theorem d_Wri_writeVariable_94 : decode prog_8_method_12_code 94 = .ok (.iadd, 1) := by decide +kernel
theorem d_Wri_writeVariable_95 : decode prog_8_method_12_code 95 = .ok (.i2c, 1) := by decide +kernel
theorem d_Wri_writeVariable_96 : decode prog_8_method_12_code 96 = .ok (.invokevirtual 59, 3) := by decide +kernel
theorem d_Wri_writeVariable_99 : decode prog_8_method_12_code 99 = .ok (.return_, 1) := by decide +kernel
theorem d_Ter_argument_0 : decode prog_9_method_10_code 0 = .ok (.iload_n 1, 1) := by decide +kernel
theorem d_Ter_argument_1 : decode prog_9_method_10_code 1 = .ok (.iconst 1, 1) := by decide +kernel
theorem d_Ter_argument_2 : decode prog_9_method_10_code 2 = .ok (.iadd, 1) := by decide +kernel
theorem d_Ter_argument_3 : decode prog_9_method_10_code 3 = .ok (.istore_n 3, 1) := by decide +kernel
theorem d_Ter_argument_4 : decode prog_9_method_10_code 4 = .ok (.iconst 0, 1) := by decide +kernel
theorem d_Ter_argument_5 : decode prog_9_method_10_code 5 = .ok (.istore 4, 2) := by decide +kernel
theorem d_Ter_argument_7 : decode prog_9_method_10_code 7 = .ok (.iload 4, 2) := by decide +kernel
theorem d_Ter_argument_9 : decode prog_9_method_10_code 9 = .ok (.iload_n 2, 1) := by decide +kernel
theorem d_Ter_argument_10 : decode prog_9_method_10_code 10 = .ok (.if_icmp .ge 17, 3) := by decide +kernel
theorem d_Ter_argument_13 : decode prog_9_method_10_code 13 = .ok (.iload_n 3, 1) := by decide +kernel
theorem d_Ter_argument_14 : decode prog_9_method_10_code 14 = .ok (.aload_n 0, 1) := by decide +kernel
theorem d_Ter_argument_15 : decode prog_9_method_10_code 15 = .ok (.iload_n 3, 1) := by decide +kernel
theorem d_Ter_argument_16 : decode prog_9_method_10_code 16 = .ok (.invokevirtual 64, 3) := by decide +kernel
theorem d_Ter_argument_19 : decode prog_9_method_10_code 19 = .ok (.iadd, 1) := by decide +kernel
theorem d_Ter_argument_20 : decode prog_9_method_10_code 20 = .ok (.istore_n 3, 1) := by decide +kernel
theorem d_Ter_argument_21 : decode prog_9_method_10_code 21 = .ok (.iinc 4 1, 3) := by decide +kernel
theorem d_Ter_argument_24 : decode prog_9_method_10_code 24 = .ok (.goto (-17), 3) := by decide +kernel
theorem d_Ter_argument_27 : decode prog_9_method_10_code 27 = .ok (.iload_n 3, 1) := by decide +kernel
theorem d_Ter_argument_28 : decode prog_9_method_10_code 28 = .ok (.ireturn, 1) := by decide +kernel
theorem d_Wri_pushList_0 : decode prog_8_method_9_code 0 = .ok (.aload_n 0, 1) := by decide +kernel
theorem d_Wri_pushList_1 : decode prog_8_method_9_code 1 = .ok (.iconst 1, 1) := by decide +kernel
theorem d_Wri_pushList_2 : decode prog_8_method_9_code 2 = .ok (.aload_n 0, 1) := by decide +kernel
theorem d_Wri_pushList_3 : decode prog_8_method_9_code 3 = .ok (.getfield 25, 3) := by decide +kernel
theorem d_Wri_pushList_6 : decode prog_8_method_9_code 6 = .ok (.iload_n 1, 1) := by decide +kernel
theorem d_Wri_pushList_7 : decode prog_8_method_9_code 7 = .ok (.iconst 1, 1) := by decide +kernel
theorem d_Wri_pushList_8 : decode prog_8_method_9_code 8 = .ok (.invokevirtual 100, 3) := by decide +kernel
theorem d_Wri_pushList_11 : decode prog_8_method_9_code 11 = .ok (.invokevirtual 54, 3) := by decide +kernel
theorem d_Wri_pushList_14 : decode prog_8_method_9_code 14 = .ok (.aload_n 0, 1) := by decide +kernel
theorem d_Wri_pushList_15 : decode prog_8_method_9_code 15 = .ok (.iconst 0, 1) := by decide +kernel
theorem d_Wri_pushList_16 : decode prog_8_method_9_code 16 = .ok (.aload_n 0, 1) := by decide +kernel
theorem d_Wri_pushList_17 : decode prog_8_method_9_code 17 = .ok (.getfield 25, 3) := by decide +kernel
theorem d_Wri_pushList_20 : decode prog_8_method_9_code 20 = .ok (.iload_n 1, 1) := by decide +kernel
theorem d_Wri_pushList_21 : decode prog_8_method_9_code 21 = .ok (.iconst 0, 1) := by decide +kernel
theorem d_Wri_pushList_22 : decode prog_8_method_9_code 22 = .ok (.invokevirtual 100, 3) := by decide +kernel
theorem d_Wri_pushList_25 : decode prog_8_method_9_code 25 = .ok (.invokevirtual 54, 3) := by decide +kernel
theorem d_Wri_pushList_28 : decode prog_8_method_9_code 28 = .ok (.return_, 1) := by decide +kernel
theorem d_Wri_writeWord_0 : decode prog_8_method_11_code 0 = .ok (.iconst 0, 1) := by decide +kernel
theorem d_Wri_writeWord_1 : decode prog_8_method_11_code 1 = .ok (.istore_n 3, 1) := by decide +kernel
theorem d_Wri_writeWord_2 : decode prog_8_method_11_code 2 = .ok (.iload_n 3, 1) := by decide +kernel
theorem d_Wri_writeWord_3 : decode prog_8_method_11_code 3 = .ok (.bipush 8, 2) := by decide +kernel
theorem d_Wri_writeWord_5 : decode prog_8_method_11_code 5 = .ok (.if_icmp .ge 34, 3) := by decide +kernel
theorem d_Wri_writeWord_8 : decode prog_8_method_11_code 8 = .ok (.lload_n 1, 1) := by decide +kernel
theorem d_Wri_writeWord_9 : decode prog_8_method_11_code 9 = .ok (.bipush 8, 2) := by decide +kernel
theorem d_Wri_writeWord_11 : decode prog_8_method_11_code 11 = .ok (.iload_n 3, 1) := by decide +kernel
theorem d_Wri_writeWord_12 : decode prog_8_method_11_code 12 = .ok (.imul, 1) := by decide +kernel
theorem d_Wri_writeWord_13 : decode prog_8_method_11_code 13 = .ok (.lushr, 1) := by decide +kernel
theorem d_Wri_writeWord_14 : decode prog_8_method_11_code 14 = .ok (.ldc2_w 104, 3) := by decide +kernel
theorem d_Wri_writeWord_17 : decode prog_8_method_11_code 17 = .ok (.land, 1) := by decide +kernel
theorem d_Wri_writeWord_18 : decode prog_8_method_11_code 18 = .ok (.l2i, 1) := by decide +kernel
theorem d_Wri_writeWord_19 : decode prog_8_method_11_code 19 = .ok (.i2c, 1) := by decide +kernel
theorem d_Wri_writeWord_20 : decode prog_8_method_11_code 20 = .ok (.istore 4, 2) := by decide +kernel
theorem d_Wri_writeWord_22 : decode prog_8_method_11_code 22 = .ok (.iload 4, 2) := by decide +kernel
theorem d_Wri_writeWord_24 : decode prog_8_method_11_code 24 = .ok (.ifCond .eq 9, 3) := by decide +kernel
theorem d_Wri_writeWord_27 : decode prog_8_method_11_code 27 = .ok (.aload_n 0, 1) := by decide +kernel
theorem d_Wri_writeWord_28 : decode prog_8_method_11_code 28 = .ok (.iload 4, 2) := by decide +kernel
theorem d_Wri_writeWord_30 : decode prog_8_method_11_code 30 = .ok (.invokevirtual 59, 3) := by decide +kernel
theorem d_Wri_writeWord_33 : decode prog_8_method_11_code 33 = .ok (.iinc 3 1, 3) := by decide +kernel
theorem d_Wri_writeWord_36 : decode prog_8_method_11_code 36 = .ok (.goto (-34), 3) := by decide +kernel
theorem d_Wri_writeWord_39 : decode prog_8_method_11_code 39 = .ok (.return_, 1) := by decide +kernel
theorem d_Wri_pushArguments_0 : decode prog_8_method_10_code 0 = .ok (.iload_n 2, 1) := by decide +kernel
theorem d_Wri_pushArguments_1 : decode prog_8_method_10_code 1 = .ok (.ifCond .le 10, 3) := by decide +kernel
theorem d_Wri_pushArguments_4 : decode prog_8_method_10_code 4 = .ok (.aload_n 0, 1) := by decide +kernel
theorem d_Wri_pushArguments_5 : decode prog_8_method_10_code 5 = .ok (.iconst 2, 1) := by decide +kernel
theorem d_Wri_pushArguments_6 : decode prog_8_method_10_code 6 = .ok (.bipush 41, 2) := by decide +kernel
theorem d_Wri_pushArguments_8 : decode prog_8_method_10_code 8 = .ok (.invokevirtual 54, 3) := by decide +kernel
theorem d_Wri_pushArguments_11 : decode prog_8_method_10_code 11 = .ok (.iload_n 2, 1) := by decide +kernel
theorem d_Wri_pushArguments_12 : decode prog_8_method_10_code 12 = .ok (.iconst 1, 1) := by decide +kernel
theorem d_Wri_pushArguments_13 : decode prog_8_method_10_code 13 = .ok (.isub, 1) := by decide +kernel
theorem d_Wri_pushArguments_14 : decode prog_8_method_10_code 14 = .ok (.istore_n 3, 1) := by decide +kernel
theorem d_Wri_pushArguments_15 : decode prog_8_method_10_code 15 = .ok (.iload_n 3, 1) := by decide +kernel
theorem d_Wri_pushArguments_16 : decode prog_8_method_10_code 16 = .ok (.ifCond .lt 39, 3) := by decide +kernel
theorem d_Wri_pushArguments_19 : decode prog_8_method_10_code 19 = .ok (.aload_n 0, 1) := by decide +kernel
theorem d_Wri_pushArguments_20 : decode prog_8_method_10_code 20 = .ok (.iconst 0, 1) := by decide +kernel
theorem d_Wri_pushArguments_21 : decode prog_8_method_10_code 21 = .ok (.aload_n 0, 1) := by decide +kernel
theorem d_Wri_pushArguments_22 : decode prog_8_method_10_code 22 = .ok (.getfield 25, 3) := by decide +kernel
theorem d_Wri_pushArguments_25 : decode prog_8_method_10_code 25 = .ok (.iload_n 1, 1) := by decide +kernel
theorem d_Wri_pushArguments_26 : decode prog_8_method_10_code 26 = .ok (.iload_n 3, 1) := by decide +kernel
theorem d_Wri_pushArguments_27 : decode prog_8_method_10_code 27 = .ok (.invokevirtual 100, 3) := by decide +kernel
theorem d_Wri_pushArguments_30 : decode prog_8_method_10_code 30 = .ok (.invokevirtual 54, 3) := by decide +kernel
theorem d_Wri_pushArguments_33 : decode prog_8_method_10_code 33 = .ok (.aload_n 0, 1) := by decide +kernel
theorem d_Wri_pushArguments_34 : decode prog_8_method_10_code 34 = .ok (.iconst 2, 1) := by decide +kernel
theorem d_Wri_pushArguments_35 : decode prog_8_method_10_code 35 = .ok (.iload_n 3, 1) := by decide +kernel
theorem d_Wri_pushArguments_36 : decode prog_8_method_10_code 36 = .ok (.ifCond .ne 8, 3) := by decide +kernel
theorem d_Wri_pushArguments_39 : decode prog_8_method_10_code 39 = .ok (.bipush 40, 2) := by decide +kernel
theorem d_Wri_pushArguments_41 : decode prog_8_method_10_code 41 = .ok (.goto 5, 3) := by decide +kernel
theorem d_Wri_pushArguments_44 : decode prog_8_method_10_code 44 = .ok (.bipush 44, 2) := by decide +kernel
theorem d_Wri_pushArguments_46 : decode prog_8_method_10_code 46 = .ok (.invokevirtual 54, 3) := by decide +kernel
theorem d_Wri_pushArguments_49 : decode prog_8_method_10_code 49 = .ok (.iinc 3 (-1), 3) := by decide +kernel
theorem d_Wri_pushArguments_52 : decode prog_8_method_10_code 52 = .ok (.goto (-37), 3) := by decide +kernel
theorem d_Wri_pushArguments_55 : decode prog_8_method_10_code 55 = .ok (.return_, 1) := by decide +kernel
theorem d_Wri_writeTerm_0 : decode prog_8_method_7_code 0 = .ok (.aload_n 0, 1) := by decide +kernel
theorem d_Wri_writeTerm_1 : decode prog_8_method_7_code 1 = .ok (.getfield 25, 3) := by decide +kernel
theorem d_Wri_writeTerm_4 : decode prog_8_method_7_code 4 = .ok (.iload_n 1, 1) := by decide +kernel
theorem d_Wri_writeTerm_5 : decode prog_8_method_7_code 5 = .ok (.invokevirtual 75, 3) := by decide +kernel
theorem d_Wri_writeTerm_8 : decode prog_8_method_7_code 8 = .ok (.istore_n 2, 1) := by decide +kernel
theorem d_Wri_writeTerm_9 : decode prog_8_method_7_code 9 = .ok (.iload_n 2, 1) := by decide +kernel
theorem d_Wri_writeTerm_10 : decode prog_8_method_7_code 10 = .ok (.ifCond .ge 11, 3) := by decide +kernel
theorem d_Wri_writeTerm_13 : decode prog_8_method_7_code 13 = .ok (.aload_n 0, 1) := by decide +kernel
theorem d_Wri_writeTerm_14 : decode prog_8_method_7_code 14 = .ok (.iload_n 1, 1) := by decide +kernel
theorem d_Wri_writeTerm_15 : decode prog_8_method_7_code 15 = .ok (.invokevirtual 78, 3) := by decide +kernel
theorem d_Wri_writeTerm_18 : decode prog_8_method_7_code 18 = .ok (.goto 63, 3) := by decide +kernel
theorem d_Wri_writeTerm_21 : decode prog_8_method_7_code 21 = .ok (.iload_n 2, 1) := by decide +kernel
theorem d_Wri_writeTerm_22 : decode prog_8_method_7_code 22 = .ok (.ifCond .ne 18, 3) := by decide +kernel
theorem d_Wri_writeTerm_25 : decode prog_8_method_7_code 25 = .ok (.aload_n 0, 1) := by decide +kernel
theorem d_Wri_writeTerm_26 : decode prog_8_method_7_code 26 = .ok (.bipush 91, 2) := by decide +kernel
theorem d_Wri_writeTerm_28 : decode prog_8_method_7_code 28 = .ok (.invokevirtual 59, 3) := by decide +kernel
theorem d_Wri_writeTerm_31 : decode prog_8_method_7_code 31 = .ok (.aload_n 0, 1) := by decide +kernel
theorem d_Wri_writeTerm_32 : decode prog_8_method_7_code 32 = .ok (.bipush 93, 2) := by decide +kernel
theorem d_Wri_writeTerm_34 : decode prog_8_method_7_code 34 = .ok (.invokevirtual 59, 3) := by decide +kernel
theorem d_Wri_writeTerm_37 : decode prog_8_method_7_code 37 = .ok (.goto 44, 3) := by decide +kernel
theorem d_Wri_writeTerm_40 : decode prog_8_method_7_code 40 = .ok (.iload_n 2, 1) := by decide +kernel
theorem d_Wri_writeTerm_41 : decode prog_8_method_7_code 41 = .ok (.bipush 10, 2) := by decide +kernel
theorem d_Wri_writeTerm_43 : decode prog_8_method_7_code 43 = .ok (.if_icmp .ne 17, 3) := by decide +kernel
theorem d_Wri_writeTerm_46 : decode prog_8_method_7_code 46 = .ok (.aload_n 0, 1) := by decide +kernel
theorem d_Wri_writeTerm_47 : decode prog_8_method_7_code 47 = .ok (.bipush 91, 2) := by decide +kernel
theorem d_Wri_writeTerm_49 : decode prog_8_method_7_code 49 = .ok (.invokevirtual 59, 3) := by decide +kernel
theorem d_Wri_writeTerm_52 : decode prog_8_method_7_code 52 = .ok (.aload_n 0, 1) := by decide +kernel
theorem d_Wri_writeTerm_53 : decode prog_8_method_7_code 53 = .ok (.iload_n 1, 1) := by decide +kernel
theorem d_Wri_writeTerm_54 : decode prog_8_method_7_code 54 = .ok (.invokevirtual 81, 3) := by decide +kernel
theorem d_Wri_writeTerm_57 : decode prog_8_method_7_code 57 = .ok (.goto 24, 3) := by decide +kernel
theorem d_Wri_writeTerm_60 : decode prog_8_method_7_code 60 = .ok (.aload_n 0, 1) := by decide +kernel
theorem d_Wri_writeTerm_61 : decode prog_8_method_7_code 61 = .ok (.aload_n 0, 1) := by decide +kernel
theorem d_Wri_writeTerm_62 : decode prog_8_method_7_code 62 = .ok (.getfield 29, 3) := by decide +kernel
theorem d_Wri_writeTerm_65 : decode prog_8_method_7_code 65 = .ok (.iload_n 2, 1) := by decide +kernel
theorem d_Wri_writeTerm_66 : decode prog_8_method_7_code 66 = .ok (.invokevirtual 84, 3) := by decide +kernel
theorem d_Wri_writeTerm_69 : decode prog_8_method_7_code 69 = .ok (.invokevirtual 90, 3) := by decide +kernel
theorem d_Wri_writeTerm_72 : decode prog_8_method_7_code 72 = .ok (.aload_n 0, 1) := by decide +kernel
theorem d_Wri_writeTerm_73 : decode prog_8_method_7_code 73 = .ok (.iload_n 1, 1) := by decide +kernel
theorem d_Wri_writeTerm_74 : decode prog_8_method_7_code 74 = .ok (.iload_n 2, 1) := by decide +kernel
theorem d_Wri_writeTerm_75 : decode prog_8_method_7_code 75 = .ok (.invokestatic 94, 3) := by decide +kernel
theorem d_Wri_writeTerm_78 : decode prog_8_method_7_code 78 = .ok (.invokevirtual 97, 3) := by decide +kernel
theorem d_Wri_writeTerm_81 : decode prog_8_method_7_code 81 = .ok (.return_, 1) := by decide +kernel
theorem d_Wri_writeRest_0 : decode prog_8_method_8_code 0 = .ok (.aload_n 0, 1) := by decide +kernel
theorem d_Wri_writeRest_1 : decode prog_8_method_8_code 1 = .ok (.getfield 25, 3) := by decide +kernel
theorem d_Wri_writeRest_4 : decode prog_8_method_8_code 4 = .ok (.iload_n 1, 1) := by decide +kernel
theorem d_Wri_writeRest_5 : decode prog_8_method_8_code 5 = .ok (.invokevirtual 75, 3) := by decide +kernel
theorem d_Wri_writeRest_8 : decode prog_8_method_8_code 8 = .ok (.istore_n 2, 1) := by decide +kernel
theorem d_Wri_writeRest_9 : decode prog_8_method_8_code 9 = .ok (.iload_n 2, 1) := by decide +kernel
theorem d_Wri_writeRest_10 : decode prog_8_method_8_code 10 = .ok (.ifCond .ne 12, 3) := by decide +kernel
theorem d_Wri_writeRest_13 : decode prog_8_method_8_code 13 = .ok (.aload_n 0, 1) := by decide +kernel
theorem d_Wri_writeRest_14 : decode prog_8_method_8_code 14 = .ok (.bipush 93, 2) := by decide +kernel
theorem d_Wri_writeRest_16 : decode prog_8_method_8_code 16 = .ok (.invokevirtual 59, 3) := by decide +kernel
theorem d_Wri_writeRest_19 : decode prog_8_method_8_code 19 = .ok (.goto 42, 3) := by decide +kernel
theorem d_Wri_writeRest_22 : decode prog_8_method_8_code 22 = .ok (.iload_n 2, 1) := by decide +kernel
theorem d_Wri_writeRest_23 : decode prog_8_method_8_code 23 = .ok (.bipush 10, 2) := by decide +kernel
theorem d_Wri_writeRest_25 : decode prog_8_method_8_code 25 = .ok (.if_icmp .ne 17, 3) := by decide +kernel
theorem d_Wri_writeRest_28 : decode prog_8_method_8_code 28 = .ok (.aload_n 0, 1) := by decide +kernel
theorem d_Wri_writeRest_29 : decode prog_8_method_8_code 29 = .ok (.bipush 44, 2) := by decide +kernel
theorem d_Wri_writeRest_31 : decode prog_8_method_8_code 31 = .ok (.invokevirtual 59, 3) := by decide +kernel
theorem d_Wri_writeRest_34 : decode prog_8_method_8_code 34 = .ok (.aload_n 0, 1) := by decide +kernel
theorem d_Wri_writeRest_35 : decode prog_8_method_8_code 35 = .ok (.iload_n 1, 1) := by decide +kernel
theorem d_Wri_writeRest_36 : decode prog_8_method_8_code 36 = .ok (.invokevirtual 81, 3) := by decide +kernel
theorem d_Wri_writeRest_39 : decode prog_8_method_8_code 39 = .ok (.goto 22, 3) := by decide +kernel
theorem d_Wri_writeRest_42 : decode prog_8_method_8_code 42 = .ok (.aload_n 0, 1) := by decide +kernel
theorem d_Wri_writeRest_43 : decode prog_8_method_8_code 43 = .ok (.bipush 124, 2) := by decide +kernel
theorem d_Wri_writeRest_45 : decode prog_8_method_8_code 45 = .ok (.invokevirtual 59, 3) := by decide +kernel
theorem d_Wri_writeRest_48 : decode prog_8_method_8_code 48 = .ok (.aload_n 0, 1) := by decide +kernel
theorem d_Wri_writeRest_49 : decode prog_8_method_8_code 49 = .ok (.iconst 2, 1) := by decide +kernel
theorem d_Wri_writeRest_50 : decode prog_8_method_8_code 50 = .ok (.bipush 93, 2) := by decide +kernel
theorem d_Wri_writeRest_52 : decode prog_8_method_8_code 52 = .ok (.invokevirtual 54, 3) := by decide +kernel
theorem d_Wri_writeRest_55 : decode prog_8_method_8_code 55 = .ok (.aload_n 0, 1) := by decide +kernel
theorem d_Wri_writeRest_56 : decode prog_8_method_8_code 56 = .ok (.iconst 0, 1) := by decide +kernel
theorem d_Wri_writeRest_57 : decode prog_8_method_8_code 57 = .ok (.iload_n 1, 1) := by decide +kernel
theorem d_Wri_writeRest_58 : decode prog_8_method_8_code 58 = .ok (.invokevirtual 54, 3) := by decide +kernel
theorem d_Wri_writeRest_61 : decode prog_8_method_8_code 61 = .ok (.return_, 1) := by decide +kernel
theorem d_Wri_write_0 : decode prog_8_method_6_code 0 = .ok (.aload_n 0, 1) := by decide +kernel
theorem d_Wri_write_1 : decode prog_8_method_6_code 1 = .ok (.iconst 0, 1) := by decide +kernel
theorem d_Wri_write_2 : decode prog_8_method_6_code 2 = .ok (.putfield 51, 3) := by decide +kernel
theorem d_Wri_write_5 : decode prog_8_method_6_code 5 = .ok (.aload_n 0, 1) := by decide +kernel
theorem d_Wri_write_6 : decode prog_8_method_6_code 6 = .ok (.iconst 0, 1) := by decide +kernel
theorem d_Wri_write_7 : decode prog_8_method_6_code 7 = .ok (.iload_n 1, 1) := by decide +kernel
theorem d_Wri_write_8 : decode prog_8_method_6_code 8 = .ok (.invokevirtual 54, 3) := by decide +kernel
theorem d_Wri_write_11 : decode prog_8_method_6_code 11 = .ok (.iconst 0, 1) := by decide +kernel
theorem d_Wri_write_12 : decode prog_8_method_6_code 12 = .ok (.istore_n 2, 1) := by decide +kernel
theorem d_Wri_write_13 : decode prog_8_method_6_code 13 = .ok (.iload_n 2, 1) := by decide +kernel
theorem d_Wri_write_14 : decode prog_8_method_6_code 14 = .ok (.ldc 58, 2) := by decide +kernel
theorem d_Wri_write_16 : decode prog_8_method_6_code 16 = .ok (.if_icmp .ge 93, 3) := by decide +kernel
theorem d_Wri_write_19 : decode prog_8_method_6_code 19 = .ok (.aload_n 0, 1) := by decide +kernel
theorem d_Wri_write_20 : decode prog_8_method_6_code 20 = .ok (.getfield 51, 3) := by decide +kernel
theorem d_Wri_write_23 : decode prog_8_method_6_code 23 = .ok (.ifCond .le 86, 3) := by decide +kernel
theorem d_Wri_write_26 : decode prog_8_method_6_code 26 = .ok (.aload_n 0, 1) := by decide +kernel
theorem d_Wri_write_27 : decode prog_8_method_6_code 27 = .ok (.dup, 1) := by decide +kernel
theorem d_Wri_write_28 : decode prog_8_method_6_code 28 = .ok (.getfield 51, 3) := by decide +kernel
theorem d_Wri_write_31 : decode prog_8_method_6_code 31 = .ok (.iconst 1, 1) := by decide +kernel
theorem d_Wri_write_32 : decode prog_8_method_6_code 32 = .ok (.isub, 1) := by decide +kernel
theorem d_Wri_write_33 : decode prog_8_method_6_code 33 = .ok (.putfield 51, 3) := by decide +kernel
theorem d_Wri_write_36 : decode prog_8_method_6_code 36 = .ok (.aload_n 0, 1) := by decide +kernel
theorem d_Wri_write_37 : decode prog_8_method_6_code 37 = .ok (.getfield 22, 3) := by decide +kernel
theorem d_Wri_write_40 : decode prog_8_method_6_code 40 = .ok (.aload_n 0, 1) := by decide +kernel
theorem d_Wri_write_41 : decode prog_8_method_6_code 41 = .ok (.getfield 51, 3) := by decide +kernel
theorem d_Wri_write_44 : decode prog_8_method_6_code 44 = .ok (.iaload, 1) := by decide +kernel
theorem d_Wri_write_45 : decode prog_8_method_6_code 45 = .ok (.istore_n 3, 1) := by decide +kernel
theorem d_Wri_write_46 : decode prog_8_method_6_code 46 = .ok (.iload_n 3, 1) := by decide +kernel
theorem d_Wri_write_47 : decode prog_8_method_6_code 47 = .ok (.iconst 4, 1) := by decide +kernel
theorem d_Wri_write_48 : decode prog_8_method_6_code 48 = .ok (.idiv, 1) := by decide +kernel
theorem d_Wri_write_49 : decode prog_8_method_6_code 49 = .ok (.istore 4, 2) := by decide +kernel
theorem d_Wri_write_51 : decode prog_8_method_6_code 51 = .ok (.iload_n 3, 1) := by decide +kernel
theorem d_Wri_write_52 : decode prog_8_method_6_code 52 = .ok (.iconst 4, 1) := by decide +kernel
theorem d_Wri_write_53 : decode prog_8_method_6_code 53 = .ok (.irem, 1) := by decide +kernel
theorem d_Wri_write_54 : decode prog_8_method_6_code 54 = .ok (.iconst 2, 1) := by decide +kernel
theorem d_Wri_write_55 : decode prog_8_method_6_code 55 = .ok (.if_icmp .ne 13, 3) := by decide +kernel
theorem d_Wri_write_58 : decode prog_8_method_6_code 58 = .ok (.aload_n 0, 1) := by decide +kernel
theorem d_Wri_write_59 : decode prog_8_method_6_code 59 = .ok (.iload 4, 2) := by decide +kernel
theorem d_Wri_write_61 : decode prog_8_method_6_code 61 = .ok (.i2c, 1) := by decide +kernel
theorem d_Wri_write_62 : decode prog_8_method_6_code 62 = .ok (.invokevirtual 59, 3) := by decide +kernel
theorem d_Wri_write_65 : decode prog_8_method_6_code 65 = .ok (.goto 38, 3) := by decide +kernel
theorem d_Wri_write_68 : decode prog_8_method_6_code 68 = .ok (.iload_n 3, 1) := by decide +kernel
theorem d_Wri_write_69 : decode prog_8_method_6_code 69 = .ok (.iconst 4, 1) := by decide +kernel
theorem d_Wri_write_70 : decode prog_8_method_6_code 70 = .ok (.irem, 1) := by decide +kernel
theorem d_Wri_write_71 : decode prog_8_method_6_code 71 = .ok (.ifCond .ne 19, 3) := by decide +kernel
theorem d_Wri_write_74 : decode prog_8_method_6_code 74 = .ok (.aload_n 0, 1) := by decide +kernel
theorem d_Wri_write_75 : decode prog_8_method_6_code 75 = .ok (.aload_n 0, 1) := by decide +kernel
theorem d_Wri_write_76 : decode prog_8_method_6_code 76 = .ok (.getfield 25, 3) := by decide +kernel
theorem d_Wri_write_79 : decode prog_8_method_6_code 79 = .ok (.iload 4, 2) := by decide +kernel
theorem d_Wri_write_81 : decode prog_8_method_6_code 81 = .ok (.invokevirtual 63, 3) := by decide +kernel
theorem d_Wri_write_84 : decode prog_8_method_6_code 84 = .ok (.invokevirtual 69, 3) := by decide +kernel
theorem d_Wri_write_87 : decode prog_8_method_6_code 87 = .ok (.goto 16, 3) := by decide +kernel
theorem d_Wri_write_90 : decode prog_8_method_6_code 90 = .ok (.aload_n 0, 1) := by decide +kernel
theorem d_Wri_write_91 : decode prog_8_method_6_code 91 = .ok (.aload_n 0, 1) := by decide +kernel
theorem d_Wri_write_92 : decode prog_8_method_6_code 92 = .ok (.getfield 25, 3) := by decide +kernel
theorem d_Wri_write_95 : decode prog_8_method_6_code 95 = .ok (.iload 4, 2) := by decide +kernel
theorem d_Wri_write_97 : decode prog_8_method_6_code 97 = .ok (.invokevirtual 63, 3) := by decide +kernel
theorem d_Wri_write_100 : decode prog_8_method_6_code 100 = .ok (.invokevirtual 72, 3) := by decide +kernel
theorem d_Wri_write_103 : decode prog_8_method_6_code 103 = .ok (.iinc 2 1, 3) := by decide +kernel
theorem d_Wri_write_106 : decode prog_8_method_6_code 106 = .ok (.goto (-93), 3) := by decide +kernel
theorem d_Wri_write_109 : decode prog_8_method_6_code 109 = .ok (.return_, 1) := by decide +kernel
theorem d_Wri_writeAll_0 : decode prog_8_method_5_code 0 = .ok (.aload_n 0, 1) := by decide +kernel
theorem d_Wri_writeAll_1 : decode prog_8_method_5_code 1 = .ok (.invokevirtual 44, 3) := by decide +kernel
theorem d_Wri_writeAll_4 : decode prog_8_method_5_code 4 = .ok (.iconst 0, 1) := by decide +kernel
theorem d_Wri_writeAll_5 : decode prog_8_method_5_code 5 = .ok (.istore_n 3, 1) := by decide +kernel
theorem d_Wri_writeAll_6 : decode prog_8_method_5_code 6 = .ok (.iload_n 3, 1) := by decide +kernel
theorem d_Wri_writeAll_7 : decode prog_8_method_5_code 7 = .ok (.iload_n 2, 1) := by decide +kernel
theorem d_Wri_writeAll_8 : decode prog_8_method_5_code 8 = .ok (.if_icmp .ge 32, 3) := by decide +kernel
theorem d_Wri_writeAll_11 : decode prog_8_method_5_code 11 = .ok (.iload_n 3, 1) := by decide +kernel
theorem d_Wri_writeAll_12 : decode prog_8_method_5_code 12 = .ok (.bipush 8, 2) := by decide +kernel
theorem d_Wri_writeAll_14 : decode prog_8_method_5_code 14 = .ok (.if_icmp .ge 26, 3) := by decide +kernel
theorem d_Wri_writeAll_17 : decode prog_8_method_5_code 17 = .ok (.aload_n 0, 1) := by decide +kernel
theorem d_Wri_writeAll_18 : decode prog_8_method_5_code 18 = .ok (.aload_n 1, 1) := by decide +kernel
theorem d_Wri_writeAll_19 : decode prog_8_method_5_code 19 = .ok (.iload_n 3, 1) := by decide +kernel
theorem d_Wri_writeAll_20 : decode prog_8_method_5_code 20 = .ok (.iaload, 1) := by decide +kernel
theorem d_Wri_writeAll_21 : decode prog_8_method_5_code 21 = .ok (.invokevirtual 47, 3) := by decide +kernel
theorem d_Wri_writeAll_24 : decode prog_8_method_5_code 24 = .ok (.aload_n 0, 1) := by decide +kernel
theorem d_Wri_writeAll_25 : decode prog_8_method_5_code 25 = .ok (.getfield 15, 3) := by decide +kernel
theorem d_Wri_writeAll_28 : decode prog_8_method_5_code 28 = .ok (.iload_n 3, 1) := by decide +kernel
theorem d_Wri_writeAll_29 : decode prog_8_method_5_code 29 = .ok (.aload_n 0, 1) := by decide +kernel
theorem d_Wri_writeAll_30 : decode prog_8_method_5_code 30 = .ok (.getfield 33, 3) := by decide +kernel
theorem d_Wri_writeAll_33 : decode prog_8_method_5_code 33 = .ok (.iastore, 1) := by decide +kernel
theorem d_Wri_writeAll_34 : decode prog_8_method_5_code 34 = .ok (.iinc 3 1, 3) := by decide +kernel
theorem d_Wri_writeAll_37 : decode prog_8_method_5_code 37 = .ok (.goto (-31), 3) := by decide +kernel
theorem d_Wri_writeAll_40 : decode prog_8_method_5_code 40 = .ok (.aload_n 0, 1) := by decide +kernel
theorem d_Wri_writeAll_41 : decode prog_8_method_5_code 41 = .ok (.iconst 1, 1) := by decide +kernel
theorem d_Wri_writeAll_42 : decode prog_8_method_5_code 42 = .ok (.putfield 40, 3) := by decide +kernel
theorem d_Wri_writeAll_45 : decode prog_8_method_5_code 45 = .ok (.return_, 1) := by decide +kernel
theorem d_Wri_letter_0 : decode prog_8_method_4_code 0 = .ok (.iload_n 1, 1) := by decide +kernel
theorem d_Wri_letter_1 : decode prog_8_method_4_code 1 = .ok (.ifCond .lt 9, 3) := by decide +kernel
theorem d_Wri_letter_4 : decode prog_8_method_4_code 4 = .ok (.iload_n 1, 1) := by decide +kernel
theorem d_Wri_letter_5 : decode prog_8_method_4_code 5 = .ok (.bipush 8, 2) := by decide +kernel
theorem d_Wri_letter_7 : decode prog_8_method_4_code 7 = .ok (.if_icmp .lt 5, 3) := by decide +kernel
theorem d_Wri_letter_10 : decode prog_8_method_4_code 10 = .ok (.iconst 0, 1) := by decide +kernel
theorem d_Wri_letter_11 : decode prog_8_method_4_code 11 = .ok (.ireturn, 1) := by decide +kernel
theorem d_Wri_letter_12 : decode prog_8_method_4_code 12 = .ok (.iload_n 1, 1) := by decide +kernel
theorem d_Wri_letter_13 : decode prog_8_method_4_code 13 = .ok (.ifCond .ne 7, 3) := by decide +kernel
theorem d_Wri_letter_16 : decode prog_8_method_4_code 16 = .ok (.iconst 0, 1) := by decide +kernel
theorem d_Wri_letter_17 : decode prog_8_method_4_code 17 = .ok (.goto 11, 3) := by decide +kernel
theorem d_Wri_letter_20 : decode prog_8_method_4_code 20 = .ok (.aload_n 0, 1) := by decide +kernel
theorem d_Wri_letter_21 : decode prog_8_method_4_code 21 = .ok (.getfield 15, 3) := by decide +kernel
theorem d_Wri_letter_24 : decode prog_8_method_4_code 24 = .ok (.iload_n 1, 1) := by decide +kernel
theorem d_Wri_letter_25 : decode prog_8_method_4_code 25 = .ok (.iconst 1, 1) := by decide +kernel
theorem d_Wri_letter_26 : decode prog_8_method_4_code 26 = .ok (.isub, 1) := by decide +kernel
theorem d_Wri_letter_27 : decode prog_8_method_4_code 27 = .ok (.iaload, 1) := by decide +kernel
theorem d_Wri_letter_28 : decode prog_8_method_4_code 28 = .ok (.istore_n 3, 1) := by decide +kernel
theorem d_Wri_letter_29 : decode prog_8_method_4_code 29 = .ok (.iload_n 2, 1) := by decide +kernel
theorem d_Wri_letter_30 : decode prog_8_method_4_code 30 = .ok (.ifCond .lt 26, 3) := by decide +kernel
theorem d_Wri_letter_33 : decode prog_8_method_4_code 33 = .ok (.iload_n 2, 1) := by decide +kernel
theorem d_Wri_letter_34 : decode prog_8_method_4_code 34 = .ok (.aload_n 0, 1) := by decide +kernel
theorem d_Wri_letter_35 : decode prog_8_method_4_code 35 = .ok (.getfield 15, 3) := by decide +kernel
theorem d_Wri_letter_38 : decode prog_8_method_4_code 38 = .ok (.iload_n 1, 1) := by decide +kernel
theorem d_Wri_letter_39 : decode prog_8_method_4_code 39 = .ok (.iaload, 1) := by decide +kernel
theorem d_Wri_letter_40 : decode prog_8_method_4_code 40 = .ok (.iload_n 3, 1) := by decide +kernel
theorem d_Wri_letter_41 : decode prog_8_method_4_code 41 = .ok (.isub, 1) := by decide +kernel
theorem d_Wri_letter_42 : decode prog_8_method_4_code 42 = .ok (.if_icmp .ge 14, 3) := by decide +kernel
theorem d_Wri_letter_45 : decode prog_8_method_4_code 45 = .ok (.aload_n 0, 1) := by decide +kernel
theorem d_Wri_letter_46 : decode prog_8_method_4_code 46 = .ok (.getfield 11, 3) := by decide +kernel
theorem d_Wri_letter_49 : decode prog_8_method_4_code 49 = .ok (.iload_n 3, 1) := by decide +kernel
theorem d_Wri_letter_50 : decode prog_8_method_4_code 50 = .ok (.iload_n 2, 1) := by decide +kernel
theorem d_Wri_letter_51 : decode prog_8_method_4_code 51 = .ok (.iadd, 1) := by decide +kernel
theorem d_Wri_letter_52 : decode prog_8_method_4_code 52 = .ok (.caload, 1) := by decide +kernel
theorem d_Wri_letter_53 : decode prog_8_method_4_code 53 = .ok (.goto 4, 3) := by decide +kernel
theorem d_Wri_letter_56 : decode prog_8_method_4_code 56 = .ok (.iconst 0, 1) := by decide +kernel
theorem d_Wri_letter_57 : decode prog_8_method_4_code 57 = .ok (.ireturn, 1) := by decide +kernel
theorem d_Sea_letter_0 : decode prog_7_method_12_code 0 = .ok (.aload_n 0, 1) := by decide +kernel
theorem d_Sea_letter_1 : decode prog_7_method_12_code 1 = .ok (.getfield 36, 3) := by decide +kernel
theorem d_Sea_letter_4 : decode prog_7_method_12_code 4 = .ok (.iconst 1, 1) := by decide +kernel
theorem d_Sea_letter_5 : decode prog_7_method_12_code 5 = .ok (.if_icmp .ne 15, 3) := by decide +kernel
theorem d_Sea_letter_8 : decode prog_7_method_12_code 8 = .ok (.iload_n 1, 1) := by decide +kernel
theorem d_Sea_letter_9 : decode prog_7_method_12_code 9 = .ok (.ifCond .lt 11, 3) := by decide +kernel
theorem d_Sea_letter_12 : decode prog_7_method_12_code 12 = .ok (.iload_n 1, 1) := by decide +kernel
theorem d_Sea_letter_13 : decode prog_7_method_12_code 13 = .ok (.aload_n 0, 1) := by decide +kernel
theorem d_Sea_letter_14 : decode prog_7_method_12_code 14 = .ok (.getfield 67, 3) := by decide +kernel
theorem d_Sea_letter_17 : decode prog_7_method_12_code 17 = .ok (.if_icmp .lt 5, 3) := by decide +kernel
theorem d_Sea_letter_20 : decode prog_7_method_12_code 20 = .ok (.iconst 0, 1) := by decide +kernel
theorem d_Sea_letter_21 : decode prog_7_method_12_code 21 = .ok (.ireturn, 1) := by decide +kernel
theorem d_Sea_letter_22 : decode prog_7_method_12_code 22 = .ok (.aload_n 0, 1) := by decide +kernel
theorem d_Sea_letter_23 : decode prog_7_method_12_code 23 = .ok (.getfield 53, 3) := by decide +kernel
theorem d_Sea_letter_26 : decode prog_7_method_12_code 26 = .ok (.invokevirtual 211, 3) := by decide +kernel
theorem d_Sea_letter_29 : decode prog_7_method_12_code 29 = .ok (.ifCond .ne 18, 3) := by decide +kernel
theorem d_Sea_letter_32 : decode prog_7_method_12_code 32 = .ok (.aload_n 0, 1) := by decide +kernel
theorem d_Sea_letter_33 : decode prog_7_method_12_code 33 = .ok (.getfield 53, 3) := by decide +kernel
theorem d_Sea_letter_36 : decode prog_7_method_12_code 36 = .ok (.aload_n 0, 1) := by decide +kernel
theorem d_Sea_letter_37 : decode prog_7_method_12_code 37 = .ok (.getfield 32, 3) := by decide +kernel
theorem d_Sea_letter_40 : decode prog_7_method_12_code 40 = .ok (.aload_n 0, 1) := by decide +kernel
theorem d_Sea_letter_41 : decode prog_7_method_12_code 41 = .ok (.getfield 67, 3) := by decide +kernel
theorem d_Sea_letter_44 : decode prog_7_method_12_code 44 = .ok (.invokevirtual 214, 3) := by decide +kernel
theorem d_Sea_letter_47 : decode prog_7_method_12_code 47 = .ok (.aload_n 0, 1) := by decide +kernel
theorem d_Sea_letter_48 : decode prog_7_method_12_code 48 = .ok (.getfield 53, 3) := by decide +kernel
theorem d_Sea_letter_51 : decode prog_7_method_12_code 51 = .ok (.iload_n 1, 1) := by decide +kernel
theorem d_Sea_letter_52 : decode prog_7_method_12_code 52 = .ok (.iload_n 2, 1) := by decide +kernel
theorem d_Sea_letter_53 : decode prog_7_method_12_code 53 = .ok (.invokevirtual 218, 3) := by decide +kernel
theorem d_Sea_letter_56 : decode prog_7_method_12_code 56 = .ok (.ireturn, 1) := by decide +kernel
theorem d_P_answer_0 : decode prog_1_method_6_code 0 = .ok (.aload_n 0, 1) := by decide +kernel
theorem d_P_answer_1 : decode prog_1_method_6_code 1 = .ok (.getfield 46, 3) := by decide +kernel
theorem d_P_answer_4 : decode prog_1_method_6_code 4 = .ok (.iload_n 1, 1) := by decide +kernel
theorem d_P_answer_5 : decode prog_1_method_6_code 5 = .ok (.iload_n 2, 1) := by decide +kernel
theorem d_P_answer_6 : decode prog_1_method_6_code 6 = .ok (.invokevirtual 88, 3) := by decide +kernel
theorem d_P_answer_9 : decode prog_1_method_6_code 9 = .ok (.ireturn, 1) := by decide +kernel
theorem d_P_clauses_0 : decode prog_1_method_7_code 0 = .ok (.aload_n 0, 1) := by decide +kernel
theorem d_P_clauses_1 : decode prog_1_method_7_code 1 = .ok (.getfield 28, 3) := by decide +kernel
theorem d_P_clauses_4 : decode prog_1_method_7_code 4 = .ok (.invokevirtual 57, 3) := by decide +kernel
theorem d_P_clauses_7 : decode prog_1_method_7_code 7 = .ok (.ireturn, 1) := by decide +kernel
theorem d_Sea_tryCount_0 : decode prog_7_method_13_code 0 = .ok (.aload_n 0, 1) := by decide +kernel
theorem d_Sea_tryCount_1 : decode prog_7_method_13_code 1 = .ok (.getfield 64, 3) := by decide +kernel
theorem d_Sea_tryCount_4 : decode prog_7_method_13_code 4 = .ok (.ireturn, 1) := by decide +kernel
theorem d_P_tries_0 : decode prog_1_method_8_code 0 = .ok (.aload_n 0, 1) := by decide +kernel
theorem d_P_tries_1 : decode prog_1_method_8_code 1 = .ok (.getfield 46, 3) := by decide +kernel
theorem d_P_tries_4 : decode prog_1_method_8_code 4 = .ok (.invokevirtual 92, 3) := by decide +kernel
theorem d_P_tries_7 : decode prog_1_method_8_code 7 = .ok (.ireturn, 1) := by decide +kernel
theorem d_Sea_choiceCount_0 : decode prog_7_method_14_code 0 = .ok (.aload_n 0, 1) := by decide +kernel
theorem d_Sea_choiceCount_1 : decode prog_7_method_14_code 1 = .ok (.getfield 28, 3) := by decide +kernel
theorem d_Sea_choiceCount_4 : decode prog_7_method_14_code 4 = .ok (.invokevirtual 104, 3) := by decide +kernel
theorem d_Sea_choiceCount_7 : decode prog_7_method_14_code 7 = .ok (.ireturn, 1) := by decide +kernel
theorem d_P_choices_0 : decode prog_1_method_9_code 0 = .ok (.aload_n 0, 1) := by decide +kernel
theorem d_P_choices_1 : decode prog_1_method_9_code 1 = .ok (.getfield 46, 3) := by decide +kernel
theorem d_P_choices_4 : decode prog_1_method_9_code 4 = .ok (.invokevirtual 95, 3) := by decide +kernel
theorem d_P_choices_7 : decode prog_1_method_9_code 7 = .ok (.ireturn, 1) := by decide +kernel
theorem d_Sea_branchLength_0 : decode prog_7_method_15_code 0 = .ok (.aload_n 0, 1) := by decide +kernel
theorem d_Sea_branchLength_1 : decode prog_7_method_15_code 1 = .ok (.getfield 61, 3) := by decide +kernel
theorem d_Sea_branchLength_4 : decode prog_7_method_15_code 4 = .ok (.ireturn, 1) := by decide +kernel
theorem d_P_length_0 : decode prog_1_method_10_code 0 = .ok (.aload_n 0, 1) := by decide +kernel
theorem d_P_length_1 : decode prog_1_method_10_code 1 = .ok (.getfield 46, 3) := by decide +kernel
theorem d_P_length_4 : decode prog_1_method_10_code 4 = .ok (.invokevirtual 98, 3) := by decide +kernel
theorem d_P_length_7 : decode prog_1_method_10_code 7 = .ok (.ireturn, 1) := by decide +kernel
theorem d_Goa_count_0 : decode prog_5_method_10_code 0 = .ok (.iconst 0, 1) := by decide +kernel
theorem d_Goa_count_1 : decode prog_5_method_10_code 1 = .ok (.istore_n 1, 1) := by decide +kernel
theorem d_Goa_count_2 : decode prog_5_method_10_code 2 = .ok (.aload_n 0, 1) := by decide +kernel
theorem d_Goa_count_3 : decode prog_5_method_10_code 3 = .ok (.getfield 21, 3) := by decide +kernel
theorem d_Goa_count_6 : decode prog_5_method_10_code 6 = .ok (.istore_n 2, 1) := by decide +kernel
theorem d_Goa_count_7 : decode prog_5_method_10_code 7 = .ok (.iload_n 2, 1) := by decide +kernel
theorem d_Goa_count_8 : decode prog_5_method_10_code 8 = .ok (.iconst (-1), 1) := by decide +kernel
theorem d_Goa_count_9 : decode prog_5_method_10_code 9 = .ok (.if_icmp .eq 22, 3) := by decide +kernel
theorem d_Goa_count_12 : decode prog_5_method_10_code 12 = .ok (.iload_n 1, 1) := by decide +kernel
theorem d_Goa_count_13 : decode prog_5_method_10_code 13 = .ok (.sipush 488, 3) := by decide +kernel
theorem d_Goa_count_16 : decode prog_5_method_10_code 16 = .ok (.if_icmp .ge 15, 3) := by decide +kernel
theorem d_Goa_count_19 : decode prog_5_method_10_code 19 = .ok (.iinc 1 1, 3) := by decide +kernel
theorem d_Goa_count_22 : decode prog_5_method_10_code 22 = .ok (.aload_n 0, 1) := by decide +kernel
theorem d_Goa_count_23 : decode prog_5_method_10_code 23 = .ok (.iload_n 2, 1) := by decide +kernel
theorem d_Goa_count_24 : decode prog_5_method_10_code 24 = .ok (.invokevirtual 28, 3) := by decide +kernel
theorem d_Goa_count_27 : decode prog_5_method_10_code 27 = .ok (.istore_n 2, 1) := by decide +kernel
theorem d_Goa_count_28 : decode prog_5_method_10_code 28 = .ok (.goto (-21), 3) := by decide +kernel
theorem d_Goa_count_31 : decode prog_5_method_10_code 31 = .ok (.iload_n 1, 1) := by decide +kernel
theorem d_Goa_count_32 : decode prog_5_method_10_code 32 = .ok (.ireturn, 1) := by decide +kernel
theorem d_Sea_goalCount_0 : decode prog_7_method_16_code 0 = .ok (.aload_n 0, 1) := by decide +kernel
theorem d_Sea_goalCount_1 : decode prog_7_method_16_code 1 = .ok (.getfield 57, 3) := by decide +kernel
theorem d_Sea_goalCount_4 : decode prog_7_method_16_code 4 = .ok (.ifCond .eq 7, 3) := by decide +kernel
theorem d_Sea_goalCount_7 : decode prog_7_method_16_code 7 = .ok (.iconst 0, 1) := by decide +kernel
theorem d_Sea_goalCount_8 : decode prog_7_method_16_code 8 = .ok (.goto 10, 3) := by decide +kernel
theorem d_Sea_goalCount_11 : decode prog_7_method_16_code 11 = .ok (.aload_n 0, 1) := by decide +kernel
theorem d_Sea_goalCount_12 : decode prog_7_method_16_code 12 = .ok (.getfield 21, 3) := by decide +kernel
theorem d_Sea_goalCount_15 : decode prog_7_method_16_code 15 = .ok (.invokevirtual 222, 3) := by decide +kernel
theorem d_Sea_goalCount_18 : decode prog_7_method_16_code 18 = .ok (.ireturn, 1) := by decide +kernel
theorem d_P_goals_0 : decode prog_1_method_11_code 0 = .ok (.aload_n 0, 1) := by decide +kernel
theorem d_P_goals_1 : decode prog_1_method_11_code 1 = .ok (.getfield 46, 3) := by decide +kernel
theorem d_P_goals_4 : decode prog_1_method_11_code 4 = .ok (.invokevirtual 101, 3) := by decide +kernel
theorem d_P_goals_7 : decode prog_1_method_11_code 7 = .ok (.ireturn, 1) := by decide +kernel
theorem d_Nam_clear_0 : decode prog_6_method_7_code 0 = .ok (.aload_n 0, 1) := by decide +kernel
theorem d_Nam_clear_1 : decode prog_6_method_7_code 1 = .ok (.iconst 0, 1) := by decide +kernel
theorem d_Nam_clear_2 : decode prog_6_method_7_code 2 = .ok (.putfield 23, 3) := by decide +kernel
theorem d_Nam_clear_5 : decode prog_6_method_7_code 5 = .ok (.aload_n 0, 1) := by decide +kernel
theorem d_Nam_clear_6 : decode prog_6_method_7_code 6 = .ok (.invokevirtual 26, 3) := by decide +kernel
theorem d_Nam_clear_9 : decode prog_6_method_7_code 9 = .ok (.return_, 1) := by decide +kernel
theorem d_P_forget_0 : decode prog_1_method_12_code 0 = .ok (.aload_n 0, 1) := by decide +kernel
theorem d_P_forget_1 : decode prog_1_method_12_code 1 = .ok (.getfield 46, 3) := by decide +kernel
theorem d_P_forget_4 : decode prog_1_method_12_code 4 = .ok (.invokevirtual 54, 3) := by decide +kernel
theorem d_P_forget_7 : decode prog_1_method_12_code 7 = .ok (.aload_n 0, 1) := by decide +kernel
theorem d_P_forget_8 : decode prog_1_method_12_code 8 = .ok (.getfield 28, 3) := by decide +kernel
theorem d_P_forget_11 : decode prog_1_method_12_code 11 = .ok (.invokevirtual 104, 3) := by decide +kernel
theorem d_P_forget_14 : decode prog_1_method_12_code 14 = .ok (.aload_n 0, 1) := by decide +kernel
theorem d_P_forget_15 : decode prog_1_method_12_code 15 = .ok (.getfield 19, 3) := by decide +kernel
theorem d_P_forget_18 : decode prog_1_method_12_code 18 = .ok (.invokevirtual 105, 3) := by decide +kernel
theorem d_P_forget_21 : decode prog_1_method_12_code 21 = .ok (.return_, 1) := by decide +kernel
