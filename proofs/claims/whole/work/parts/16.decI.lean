theorem d_i0_0 : decode prog_1_method_1_code 0 = .ok (.aload_n 0, 1) := by decide +kernel
theorem d_i0_1 : decode prog_1_method_1_code 1 = .ok (.invokespecial 3, 3) := by decide +kernel
theorem d_i0_4 : decode prog_1_method_1_code 4 = .ok (.aload_n 0, 1) := by decide +kernel
theorem d_i0_5 : decode prog_1_method_1_code 5 = .ok (.new 9, 3) := by decide +kernel
theorem d_i0_8 : decode prog_1_method_1_code 8 = .ok (.dup, 1) := by decide +kernel
theorem d_i0_9 : decode prog_1_method_1_code 9 = .ok (.invokespecial 11, 3) := by decide +kernel
theorem d_i0_12 : decode prog_1_method_1_code 12 = .ok (.putfield 12, 3) := by decide +kernel
theorem d_i0_15 : decode prog_1_method_1_code 15 = .ok (.aload_n 0, 1) := by decide +kernel
theorem d_i0_16 : decode prog_1_method_1_code 16 = .ok (.new 16, 3) := by decide +kernel
theorem d_i0_19 : decode prog_1_method_1_code 19 = .ok (.dup, 1) := by decide +kernel
theorem d_i0_20 : decode prog_1_method_1_code 20 = .ok (.invokespecial 18, 3) := by decide +kernel
theorem d_i0_23 : decode prog_1_method_1_code 23 = .ok (.putfield 19, 3) := by decide +kernel
theorem d_i0_26 : decode prog_1_method_1_code 26 = .ok (.aload_n 0, 1) := by decide +kernel
theorem d_i0_27 : decode prog_1_method_1_code 27 = .ok (.new 23, 3) := by decide +kernel
theorem d_i0_30 : decode prog_1_method_1_code 30 = .ok (.dup, 1) := by decide +kernel
theorem d_i0_31 : decode prog_1_method_1_code 31 = .ok (.sipush 960, 3) := by decide +kernel
theorem d_i0_34 : decode prog_1_method_1_code 34 = .ok (.bipush 24, 2) := by decide +kernel
theorem d_i0_36 : decode prog_1_method_1_code 36 = .ok (.invokespecial 25, 3) := by decide +kernel
theorem d_i0_39 : decode prog_1_method_1_code 39 = .ok (.putfield 28, 3) := by decide +kernel
theorem d_i0_42 : decode prog_1_method_1_code 42 = .ok (.aload_n 0, 1) := by decide +kernel
theorem d_i0_43 : decode prog_1_method_1_code 43 = .ok (.new 32, 3) := by decide +kernel
theorem d_i0_46 : decode prog_1_method_1_code 46 = .ok (.dup, 1) := by decide +kernel
theorem d_i0_47 : decode prog_1_method_1_code 47 = .ok (.aload_n 0, 1) := by decide +kernel
theorem d_i0_48 : decode prog_1_method_1_code 48 = .ok (.getfield 19, 3) := by decide +kernel
theorem d_i0_51 : decode prog_1_method_1_code 51 = .ok (.invokespecial 34, 3) := by decide +kernel
theorem d_i0_54 : decode prog_1_method_1_code 54 = .ok (.putfield 37, 3) := by decide +kernel
theorem d_i0_57 : decode prog_1_method_1_code 57 = .ok (.aload_n 0, 1) := by decide +kernel
theorem d_i0_58 : decode prog_1_method_1_code 58 = .ok (.new 41, 3) := by decide +kernel
theorem d_i0_61 : decode prog_1_method_1_code 61 = .ok (.dup, 1) := by decide +kernel
theorem d_i0_62 : decode prog_1_method_1_code 62 = .ok (.aload_n 0, 1) := by decide +kernel
theorem d_i0_63 : decode prog_1_method_1_code 63 = .ok (.getfield 28, 3) := by decide +kernel
theorem d_i0_66 : decode prog_1_method_1_code 66 = .ok (.aload_n 0, 1) := by decide +kernel
theorem d_i0_67 : decode prog_1_method_1_code 67 = .ok (.getfield 19, 3) := by decide +kernel
theorem d_i0_70 : decode prog_1_method_1_code 70 = .ok (.invokespecial 43, 3) := by decide +kernel
theorem d_i0_73 : decode prog_1_method_1_code 73 = .ok (.putfield 46, 3) := by decide +kernel
theorem d_i0_76 : decode prog_1_method_1_code 76 = .ok (.return_, 1) := by decide +kernel
theorem d_i1_0 : decode prog_10_method_1_code 0 = .ok (.aload_n 0, 1) := by decide +kernel
theorem d_i1_1 : decode prog_10_method_1_code 1 = .ok (.invokespecial 3, 3) := by decide +kernel
theorem d_i1_4 : decode prog_10_method_1_code 4 = .ok (.aload_n 0, 1) := by decide +kernel
theorem d_i1_5 : decode prog_10_method_1_code 5 = .ok (.sipush 240, 3) := by decide +kernel
theorem d_i1_8 : decode prog_10_method_1_code 8 = .ok (.newarray .char, 2) := by decide +kernel
theorem d_i1_10 : decode prog_10_method_1_code 10 = .ok (.putfield 9, 3) := by decide +kernel
theorem d_i1_13 : decode prog_10_method_1_code 13 = .ok (.return_, 1) := by decide +kernel
theorem d_i3_0 : decode prog_6_method_1_code 0 = .ok (.aload_n 0, 1) := by decide +kernel
theorem d_i3_1 : decode prog_6_method_1_code 1 = .ok (.invokespecial 3, 3) := by decide +kernel
theorem d_i3_4 : decode prog_6_method_1_code 4 = .ok (.aload_n 0, 1) := by decide +kernel
theorem d_i3_5 : decode prog_6_method_1_code 5 = .ok (.bipush 32, 2) := by decide +kernel
theorem d_i3_7 : decode prog_6_method_1_code 7 = .ok (.newarray .long, 2) := by decide +kernel
theorem d_i3_9 : decode prog_6_method_1_code 9 = .ok (.putfield 9, 3) := by decide +kernel
theorem d_i3_12 : decode prog_6_method_1_code 12 = .ok (.return_, 1) := by decide +kernel
theorem d_i4_0 : decode prog_4_method_1_code 0 = .ok (.aload_n 0, 1) := by decide +kernel
theorem d_i4_1 : decode prog_4_method_1_code 1 = .ok (.invokespecial 3, 3) := by decide +kernel
theorem d_i4_4 : decode prog_4_method_1_code 4 = .ok (.aload_n 0, 1) := by decide +kernel
theorem d_i4_5 : decode prog_4_method_1_code 5 = .ok (.iload_n 1, 1) := by decide +kernel
theorem d_i4_6 : decode prog_4_method_1_code 6 = .ok (.newarray .int, 2) := by decide +kernel
theorem d_i4_8 : decode prog_4_method_1_code 8 = .ok (.putfield 9, 3) := by decide +kernel
theorem d_i4_11 : decode prog_4_method_1_code 11 = .ok (.aload_n 0, 1) := by decide +kernel
theorem d_i4_12 : decode prog_4_method_1_code 12 = .ok (.iload_n 1, 1) := by decide +kernel
theorem d_i4_13 : decode prog_4_method_1_code 13 = .ok (.newarray .int, 2) := by decide +kernel
theorem d_i4_15 : decode prog_4_method_1_code 15 = .ok (.putfield 15, 3) := by decide +kernel
theorem d_i4_18 : decode prog_4_method_1_code 18 = .ok (.aload_n 0, 1) := by decide +kernel
theorem d_i4_19 : decode prog_4_method_1_code 19 = .ok (.iload_n 2, 1) := by decide +kernel
theorem d_i4_20 : decode prog_4_method_1_code 20 = .ok (.newarray .int, 2) := by decide +kernel
theorem d_i4_22 : decode prog_4_method_1_code 22 = .ok (.putfield 18, 3) := by decide +kernel
theorem d_i4_25 : decode prog_4_method_1_code 25 = .ok (.return_, 1) := by decide +kernel
theorem d_i5_0 : decode prog_3_method_1_code 0 = .ok (.aload_n 0, 1) := by decide +kernel
theorem d_i5_1 : decode prog_3_method_1_code 1 = .ok (.invokespecial 3, 3) := by decide +kernel
theorem d_i5_4 : decode prog_3_method_1_code 4 = .ok (.aload_n 0, 1) := by decide +kernel
theorem d_i5_5 : decode prog_3_method_1_code 5 = .ok (.new 9, 3) := by decide +kernel
theorem d_i5_8 : decode prog_3_method_1_code 8 = .ok (.dup, 1) := by decide +kernel
theorem d_i5_9 : decode prog_3_method_1_code 9 = .ok (.invokespecial 11, 3) := by decide +kernel
theorem d_i5_12 : decode prog_3_method_1_code 12 = .ok (.putfield 12, 3) := by decide +kernel
theorem d_i5_15 : decode prog_3_method_1_code 15 = .ok (.aload_n 0, 1) := by decide +kernel
theorem d_i5_16 : decode prog_3_method_1_code 16 = .ok (.new 18, 3) := by decide +kernel
theorem d_i5_19 : decode prog_3_method_1_code 19 = .ok (.dup, 1) := by decide +kernel
theorem d_i5_20 : decode prog_3_method_1_code 20 = .ok (.sipush 240, 3) := by decide +kernel
theorem d_i5_23 : decode prog_3_method_1_code 23 = .ok (.bipush 24, 2) := by decide +kernel
theorem d_i5_25 : decode prog_3_method_1_code 25 = .ok (.invokespecial 20, 3) := by decide +kernel
theorem d_i5_28 : decode prog_3_method_1_code 28 = .ok (.putfield 23, 3) := by decide +kernel
theorem d_i5_31 : decode prog_3_method_1_code 31 = .ok (.aload_n 0, 1) := by decide +kernel
theorem d_i5_32 : decode prog_3_method_1_code 32 = .ok (.bipush 8, 2) := by decide +kernel
theorem d_i5_34 : decode prog_3_method_1_code 34 = .ok (.newarray .long, 2) := by decide +kernel
theorem d_i5_36 : decode prog_3_method_1_code 36 = .ok (.putfield 27, 3) := by decide +kernel
theorem d_i5_39 : decode prog_3_method_1_code 39 = .ok (.aload_n 0, 1) := by decide +kernel
theorem d_i5_40 : decode prog_3_method_1_code 40 = .ok (.aload_n 1, 1) := by decide +kernel
theorem d_i5_41 : decode prog_3_method_1_code 41 = .ok (.putfield 31, 3) := by decide +kernel
theorem d_i5_44 : decode prog_3_method_1_code 44 = .ok (.return_, 1) := by decide +kernel
theorem d_i2_0 : decode prog_11_method_1_code 0 = .ok (.aload_n 0, 1) := by decide +kernel
theorem d_i2_1 : decode prog_11_method_1_code 1 = .ok (.invokespecial 3, 3) := by decide +kernel
theorem d_i2_4 : decode prog_11_method_1_code 4 = .ok (.aload_n 0, 1) := by decide +kernel
theorem d_i2_5 : decode prog_11_method_1_code 5 = .ok (.sipush 241, 3) := by decide +kernel
theorem d_i2_8 : decode prog_11_method_1_code 8 = .ok (.newarray .char, 2) := by decide +kernel
theorem d_i2_10 : decode prog_11_method_1_code 10 = .ok (.putfield 9, 3) := by decide +kernel
theorem d_i2_13 : decode prog_11_method_1_code 13 = .ok (.aload_n 0, 1) := by decide +kernel
theorem d_i2_14 : decode prog_11_method_1_code 14 = .ok (.sipush 241, 3) := by decide +kernel
theorem d_i2_17 : decode prog_11_method_1_code 17 = .ok (.newarray .int, 2) := by decide +kernel
theorem d_i2_19 : decode prog_11_method_1_code 19 = .ok (.putfield 15, 3) := by decide +kernel
theorem d_i2_22 : decode prog_11_method_1_code 22 = .ok (.aload_n 0, 1) := by decide +kernel
theorem d_i2_23 : decode prog_11_method_1_code 23 = .ok (.sipush 241, 3) := by decide +kernel
theorem d_i2_26 : decode prog_11_method_1_code 26 = .ok (.newarray .long, 2) := by decide +kernel
theorem d_i2_28 : decode prog_11_method_1_code 28 = .ok (.putfield 19, 3) := by decide +kernel
theorem d_i2_31 : decode prog_11_method_1_code 31 = .ok (.return_, 1) := by decide +kernel
theorem d_i9_0 : decode prog_7_method_1_code 0 = .ok (.aload_n 0, 1) := by decide +kernel
theorem d_i9_1 : decode prog_7_method_1_code 1 = .ok (.invokespecial 3, 3) := by decide +kernel
theorem d_i9_4 : decode prog_7_method_1_code 4 = .ok (.aload_n 0, 1) := by decide +kernel
theorem d_i9_5 : decode prog_7_method_1_code 5 = .ok (.new 9, 3) := by decide +kernel
theorem d_i9_8 : decode prog_7_method_1_code 8 = .ok (.dup, 1) := by decide +kernel
theorem d_i9_9 : decode prog_7_method_1_code 9 = .ok (.invokespecial 11, 3) := by decide +kernel
theorem d_i9_12 : decode prog_7_method_1_code 12 = .ok (.putfield 12, 3) := by decide +kernel
theorem d_i9_15 : decode prog_7_method_1_code 15 = .ok (.aload_n 0, 1) := by decide +kernel
theorem d_i9_16 : decode prog_7_method_1_code 16 = .ok (.new 18, 3) := by decide +kernel
theorem d_i9_19 : decode prog_7_method_1_code 19 = .ok (.dup, 1) := by decide +kernel
theorem d_i9_20 : decode prog_7_method_1_code 20 = .ok (.invokespecial 20, 3) := by decide +kernel
theorem d_i9_23 : decode prog_7_method_1_code 23 = .ok (.putfield 21, 3) := by decide +kernel
theorem d_i9_26 : decode prog_7_method_1_code 26 = .ok (.aload_n 0, 1) := by decide +kernel
theorem d_i9_27 : decode prog_7_method_1_code 27 = .ok (.new 25, 3) := by decide +kernel
theorem d_i9_30 : decode prog_7_method_1_code 30 = .ok (.dup, 1) := by decide +kernel
theorem d_i9_31 : decode prog_7_method_1_code 31 = .ok (.invokespecial 27, 3) := by decide +kernel
theorem d_i9_34 : decode prog_7_method_1_code 34 = .ok (.putfield 28, 3) := by decide +kernel
theorem d_i9_37 : decode prog_7_method_1_code 37 = .ok (.aload_n 0, 1) := by decide +kernel
theorem d_i9_38 : decode prog_7_method_1_code 38 = .ok (.bipush 8, 2) := by decide +kernel
theorem d_i9_40 : decode prog_7_method_1_code 40 = .ok (.newarray .int, 2) := by decide +kernel
theorem d_i9_42 : decode prog_7_method_1_code 42 = .ok (.putfield 32, 3) := by decide +kernel
theorem d_i9_45 : decode prog_7_method_1_code 45 = .ok (.aload_n 0, 1) := by decide +kernel
theorem d_i9_46 : decode prog_7_method_1_code 46 = .ok (.iconst (-1), 1) := by decide +kernel
theorem d_i9_47 : decode prog_7_method_1_code 47 = .ok (.putfield 36, 3) := by decide +kernel
theorem d_i9_50 : decode prog_7_method_1_code 50 = .ok (.aload_n 0, 1) := by decide +kernel
theorem d_i9_51 : decode prog_7_method_1_code 51 = .ok (.aload_n 1, 1) := by decide +kernel
theorem d_i9_52 : decode prog_7_method_1_code 52 = .ok (.putfield 40, 3) := by decide +kernel
theorem d_i9_55 : decode prog_7_method_1_code 55 = .ok (.aload_n 0, 1) := by decide +kernel
theorem d_i9_56 : decode prog_7_method_1_code 56 = .ok (.aload_n 2, 1) := by decide +kernel
theorem d_i9_57 : decode prog_7_method_1_code 57 = .ok (.putfield 44, 3) := by decide +kernel
theorem d_i9_60 : decode prog_7_method_1_code 60 = .ok (.aload_n 0, 1) := by decide +kernel
theorem d_i9_61 : decode prog_7_method_1_code 61 = .ok (.new 48, 3) := by decide +kernel
theorem d_i9_64 : decode prog_7_method_1_code 64 = .ok (.dup, 1) := by decide +kernel
theorem d_i9_65 : decode prog_7_method_1_code 65 = .ok (.aload_n 0, 1) := by decide +kernel
theorem d_i9_66 : decode prog_7_method_1_code 66 = .ok (.getfield 12, 3) := by decide +kernel
theorem d_i9_69 : decode prog_7_method_1_code 69 = .ok (.aload_n 2, 1) := by decide +kernel
theorem d_i9_70 : decode prog_7_method_1_code 70 = .ok (.invokespecial 50, 3) := by decide +kernel
theorem d_i9_73 : decode prog_7_method_1_code 73 = .ok (.putfield 53, 3) := by decide +kernel
theorem d_i9_76 : decode prog_7_method_1_code 76 = .ok (.return_, 1) := by decide +kernel
theorem d_i6_0 : decode prog_9_method_1_code 0 = .ok (.aload_n 0, 1) := by decide +kernel
theorem d_i6_1 : decode prog_9_method_1_code 1 = .ok (.invokespecial 3, 3) := by decide +kernel
theorem d_i6_4 : decode prog_9_method_1_code 4 = .ok (.aload_n 0, 1) := by decide +kernel
theorem d_i6_5 : decode prog_9_method_1_code 5 = .ok (.sipush 2440, 3) := by decide +kernel
theorem d_i6_8 : decode prog_9_method_1_code 8 = .ok (.newarray .int, 2) := by decide +kernel
theorem d_i6_10 : decode prog_9_method_1_code 10 = .ok (.putfield 11, 3) := by decide +kernel
theorem d_i6_13 : decode prog_9_method_1_code 13 = .ok (.aload_n 0, 1) := by decide +kernel
theorem d_i6_14 : decode prog_9_method_1_code 14 = .ok (.sipush 2440, 3) := by decide +kernel
theorem d_i6_17 : decode prog_9_method_1_code 17 = .ok (.newarray .int, 2) := by decide +kernel
theorem d_i6_19 : decode prog_9_method_1_code 19 = .ok (.putfield 15, 3) := by decide +kernel
theorem d_i6_22 : decode prog_9_method_1_code 22 = .ok (.aload_n 0, 1) := by decide +kernel
theorem d_i6_23 : decode prog_9_method_1_code 23 = .ok (.sipush 2440, 3) := by decide +kernel
theorem d_i6_26 : decode prog_9_method_1_code 26 = .ok (.newarray .int, 2) := by decide +kernel
theorem d_i6_28 : decode prog_9_method_1_code 28 = .ok (.putfield 18, 3) := by decide +kernel
theorem d_i6_31 : decode prog_9_method_1_code 31 = .ok (.aload_n 0, 1) := by decide +kernel
theorem d_i6_32 : decode prog_9_method_1_code 32 = .ok (.sipush 2440, 3) := by decide +kernel
theorem d_i6_35 : decode prog_9_method_1_code 35 = .ok (.newarray .int, 2) := by decide +kernel
theorem d_i6_37 : decode prog_9_method_1_code 37 = .ok (.putfield 21, 3) := by decide +kernel
theorem d_i6_40 : decode prog_9_method_1_code 40 = .ok (.aload_n 0, 1) := by decide +kernel
theorem d_i6_41 : decode prog_9_method_1_code 41 = .ok (.sipush 2440, 3) := by decide +kernel
theorem d_i6_44 : decode prog_9_method_1_code 44 = .ok (.newarray .int, 2) := by decide +kernel
theorem d_i6_46 : decode prog_9_method_1_code 46 = .ok (.putfield 24, 3) := by decide +kernel
theorem d_i6_49 : decode prog_9_method_1_code 49 = .ok (.aload_n 0, 1) := by decide +kernel
theorem d_i6_50 : decode prog_9_method_1_code 50 = .ok (.sipush 512, 3) := by decide +kernel
theorem d_i6_53 : decode prog_9_method_1_code 53 = .ok (.newarray .int, 2) := by decide +kernel
theorem d_i6_55 : decode prog_9_method_1_code 55 = .ok (.putfield 27, 3) := by decide +kernel
theorem d_i6_58 : decode prog_9_method_1_code 58 = .ok (.aload_n 0, 1) := by decide +kernel
theorem d_i6_59 : decode prog_9_method_1_code 59 = .ok (.bipush 8, 2) := by decide +kernel
theorem d_i6_61 : decode prog_9_method_1_code 61 = .ok (.newarray .int, 2) := by decide +kernel
theorem d_i6_63 : decode prog_9_method_1_code 63 = .ok (.putfield 30, 3) := by decide +kernel
theorem d_i6_66 : decode prog_9_method_1_code 66 = .ok (.return_, 1) := by decide +kernel
theorem d_i7_0 : decode prog_5_method_1_code 0 = .ok (.aload_n 0, 1) := by decide +kernel
theorem d_i7_1 : decode prog_5_method_1_code 1 = .ok (.invokespecial 3, 3) := by decide +kernel
theorem d_i7_4 : decode prog_5_method_1_code 4 = .ok (.aload_n 0, 1) := by decide +kernel
theorem d_i7_5 : decode prog_5_method_1_code 5 = .ok (.sipush 488, 3) := by decide +kernel
theorem d_i7_8 : decode prog_5_method_1_code 8 = .ok (.newarray .int, 2) := by decide +kernel
theorem d_i7_10 : decode prog_5_method_1_code 10 = .ok (.putfield 11, 3) := by decide +kernel
theorem d_i7_13 : decode prog_5_method_1_code 13 = .ok (.aload_n 0, 1) := by decide +kernel
theorem d_i7_14 : decode prog_5_method_1_code 14 = .ok (.sipush 488, 3) := by decide +kernel
theorem d_i7_17 : decode prog_5_method_1_code 17 = .ok (.newarray .int, 2) := by decide +kernel
theorem d_i7_19 : decode prog_5_method_1_code 19 = .ok (.putfield 15, 3) := by decide +kernel
theorem d_i7_22 : decode prog_5_method_1_code 22 = .ok (.aload_n 0, 1) := by decide +kernel
theorem d_i7_23 : decode prog_5_method_1_code 23 = .ok (.sipush 488, 3) := by decide +kernel
theorem d_i7_26 : decode prog_5_method_1_code 26 = .ok (.newarray .int, 2) := by decide +kernel
theorem d_i7_28 : decode prog_5_method_1_code 28 = .ok (.putfield 18, 3) := by decide +kernel
theorem d_i7_31 : decode prog_5_method_1_code 31 = .ok (.aload_n 0, 1) := by decide +kernel
theorem d_i7_32 : decode prog_5_method_1_code 32 = .ok (.iconst (-1), 1) := by decide +kernel
theorem d_i7_33 : decode prog_5_method_1_code 33 = .ok (.putfield 21, 3) := by decide +kernel
theorem d_i7_36 : decode prog_5_method_1_code 36 = .ok (.return_, 1) := by decide +kernel
theorem d_i8_0 : decode prog_2_method_1_code 0 = .ok (.aload_n 0, 1) := by decide +kernel
theorem d_i8_1 : decode prog_2_method_1_code 1 = .ok (.invokespecial 3, 3) := by decide +kernel
theorem d_i8_4 : decode prog_2_method_1_code 4 = .ok (.aload_n 0, 1) := by decide +kernel
theorem d_i8_5 : decode prog_2_method_1_code 5 = .ok (.bipush 60, 2) := by decide +kernel
theorem d_i8_7 : decode prog_2_method_1_code 7 = .ok (.newarray .int, 2) := by decide +kernel
theorem d_i8_9 : decode prog_2_method_1_code 9 = .ok (.putfield 9, 3) := by decide +kernel
theorem d_i8_12 : decode prog_2_method_1_code 12 = .ok (.aload_n 0, 1) := by decide +kernel
theorem d_i8_13 : decode prog_2_method_1_code 13 = .ok (.bipush 60, 2) := by decide +kernel
theorem d_i8_15 : decode prog_2_method_1_code 15 = .ok (.newarray .int, 2) := by decide +kernel
theorem d_i8_17 : decode prog_2_method_1_code 17 = .ok (.putfield 15, 3) := by decide +kernel
theorem d_i8_20 : decode prog_2_method_1_code 20 = .ok (.aload_n 0, 1) := by decide +kernel
theorem d_i8_21 : decode prog_2_method_1_code 21 = .ok (.bipush 60, 2) := by decide +kernel
theorem d_i8_23 : decode prog_2_method_1_code 23 = .ok (.newarray .int, 2) := by decide +kernel
theorem d_i8_25 : decode prog_2_method_1_code 25 = .ok (.putfield 18, 3) := by decide +kernel
theorem d_i8_28 : decode prog_2_method_1_code 28 = .ok (.aload_n 0, 1) := by decide +kernel
theorem d_i8_29 : decode prog_2_method_1_code 29 = .ok (.bipush 60, 2) := by decide +kernel
theorem d_i8_31 : decode prog_2_method_1_code 31 = .ok (.newarray .int, 2) := by decide +kernel
theorem d_i8_33 : decode prog_2_method_1_code 33 = .ok (.putfield 21, 3) := by decide +kernel
theorem d_i8_36 : decode prog_2_method_1_code 36 = .ok (.aload_n 0, 1) := by decide +kernel
theorem d_i8_37 : decode prog_2_method_1_code 37 = .ok (.bipush 60, 2) := by decide +kernel
theorem d_i8_39 : decode prog_2_method_1_code 39 = .ok (.newarray .int, 2) := by decide +kernel
theorem d_i8_41 : decode prog_2_method_1_code 41 = .ok (.putfield 24, 3) := by decide +kernel
theorem d_i8_44 : decode prog_2_method_1_code 44 = .ok (.aload_n 0, 1) := by decide +kernel
theorem d_i8_45 : decode prog_2_method_1_code 45 = .ok (.bipush 60, 2) := by decide +kernel
theorem d_i8_47 : decode prog_2_method_1_code 47 = .ok (.newarray .int, 2) := by decide +kernel
theorem d_i8_49 : decode prog_2_method_1_code 49 = .ok (.putfield 27, 3) := by decide +kernel
theorem d_i8_52 : decode prog_2_method_1_code 52 = .ok (.return_, 1) := by decide +kernel
theorem d_i10_0 : decode prog_8_method_1_code 0 = .ok (.aload_n 0, 1) := by decide +kernel
theorem d_i10_1 : decode prog_8_method_1_code 1 = .ok (.invokespecial 3, 3) := by decide +kernel
theorem d_i10_4 : decode prog_8_method_1_code 4 = .ok (.aload_n 0, 1) := by decide +kernel
theorem d_i10_5 : decode prog_8_method_1_code 5 = .ok (.sipush 1200, 3) := by decide +kernel
theorem d_i10_8 : decode prog_8_method_1_code 8 = .ok (.newarray .char, 2) := by decide +kernel
theorem d_i10_10 : decode prog_8_method_1_code 10 = .ok (.putfield 11, 3) := by decide +kernel
theorem d_i10_13 : decode prog_8_method_1_code 13 = .ok (.aload_n 0, 1) := by decide +kernel
theorem d_i10_14 : decode prog_8_method_1_code 14 = .ok (.bipush 8, 2) := by decide +kernel
theorem d_i10_16 : decode prog_8_method_1_code 16 = .ok (.newarray .int, 2) := by decide +kernel
theorem d_i10_18 : decode prog_8_method_1_code 18 = .ok (.putfield 15, 3) := by decide +kernel
theorem d_i10_21 : decode prog_8_method_1_code 21 = .ok (.aload_n 0, 1) := by decide +kernel
theorem d_i10_22 : decode prog_8_method_1_code 22 = .ok (.bipush 120, 2) := by decide +kernel
theorem d_i10_24 : decode prog_8_method_1_code 24 = .ok (.newarray .int, 2) := by decide +kernel
theorem d_i10_26 : decode prog_8_method_1_code 26 = .ok (.putfield 19, 3) := by decide +kernel
theorem d_i10_29 : decode prog_8_method_1_code 29 = .ok (.aload_n 0, 1) := by decide +kernel
theorem d_i10_30 : decode prog_8_method_1_code 30 = .ok (.sipush 512, 3) := by decide +kernel
theorem d_i10_33 : decode prog_8_method_1_code 33 = .ok (.newarray .int, 2) := by decide +kernel
theorem d_i10_35 : decode prog_8_method_1_code 35 = .ok (.putfield 22, 3) := by decide +kernel
theorem d_i10_38 : decode prog_8_method_1_code 38 = .ok (.aload_n 0, 1) := by decide +kernel
theorem d_i10_39 : decode prog_8_method_1_code 39 = .ok (.aload_n 1, 1) := by decide +kernel
theorem d_i10_40 : decode prog_8_method_1_code 40 = .ok (.putfield 25, 3) := by decide +kernel
theorem d_i10_43 : decode prog_8_method_1_code 43 = .ok (.aload_n 0, 1) := by decide +kernel
theorem d_i10_44 : decode prog_8_method_1_code 44 = .ok (.aload_n 2, 1) := by decide +kernel
theorem d_i10_45 : decode prog_8_method_1_code 45 = .ok (.putfield 29, 3) := by decide +kernel
theorem d_i10_48 : decode prog_8_method_1_code 48 = .ok (.return_, 1) := by decide +kernel
theorem d_i11_0 : decode prog_13_method_1_code 0 = .ok (.aload_n 0, 1) := by decide +kernel
theorem d_i11_1 : decode prog_13_method_1_code 1 = .ok (.invokespecial 1, 3) := by decide +kernel
theorem d_i11_4 : decode prog_13_method_1_code 4 = .ok (.aload_n 0, 1) := by decide +kernel
theorem d_i11_5 : decode prog_13_method_1_code 5 = .ok (.sipush 240, 3) := by decide +kernel
theorem d_i11_8 : decode prog_13_method_1_code 8 = .ok (.newarray .int, 2) := by decide +kernel
theorem d_i11_10 : decode prog_13_method_1_code 10 = .ok (.putfield 7, 3) := by decide +kernel
theorem d_i11_13 : decode prog_13_method_1_code 13 = .ok (.aload_n 0, 1) := by decide +kernel
theorem d_i11_14 : decode prog_13_method_1_code 14 = .ok (.sipush 500, 3) := by decide +kernel
theorem d_i11_17 : decode prog_13_method_1_code 17 = .ok (.newarray .long, 2) := by decide +kernel
theorem d_i11_19 : decode prog_13_method_1_code 19 = .ok (.putfield 13, 3) := by decide +kernel
theorem d_i11_22 : decode prog_13_method_1_code 22 = .ok (.aload_n 0, 1) := by decide +kernel
theorem d_i11_23 : decode prog_13_method_1_code 23 = .ok (.sipush 500, 3) := by decide +kernel
theorem d_i11_26 : decode prog_13_method_1_code 26 = .ok (.newarray .int, 2) := by decide +kernel
theorem d_i11_28 : decode prog_13_method_1_code 28 = .ok (.putfield 17, 3) := by decide +kernel
theorem d_i11_31 : decode prog_13_method_1_code 31 = .ok (.aload_n 0, 1) := by decide +kernel
theorem d_i11_32 : decode prog_13_method_1_code 32 = .ok (.sipush 242, 3) := by decide +kernel
theorem d_i11_35 : decode prog_13_method_1_code 35 = .ok (.newarray .int, 2) := by decide +kernel
theorem d_i11_37 : decode prog_13_method_1_code 37 = .ok (.putfield 20, 3) := by decide +kernel
theorem d_i11_40 : decode prog_13_method_1_code 40 = .ok (.aload_n 0, 1) := by decide +kernel
theorem d_i11_41 : decode prog_13_method_1_code 41 = .ok (.sipush 242, 3) := by decide +kernel
theorem d_i11_44 : decode prog_13_method_1_code 44 = .ok (.newarray .int, 2) := by decide +kernel
theorem d_i11_46 : decode prog_13_method_1_code 46 = .ok (.putfield 23, 3) := by decide +kernel
theorem d_i11_49 : decode prog_13_method_1_code 49 = .ok (.aload_n 0, 1) := by decide +kernel
theorem d_i11_50 : decode prog_13_method_1_code 50 = .ok (.sipush 242, 3) := by decide +kernel
theorem d_i11_53 : decode prog_13_method_1_code 53 = .ok (.newarray .int, 2) := by decide +kernel
theorem d_i11_55 : decode prog_13_method_1_code 55 = .ok (.putfield 26, 3) := by decide +kernel
theorem d_i11_58 : decode prog_13_method_1_code 58 = .ok (.aload_n 0, 1) := by decide +kernel
theorem d_i11_59 : decode prog_13_method_1_code 59 = .ok (.sipush 242, 3) := by decide +kernel
theorem d_i11_62 : decode prog_13_method_1_code 62 = .ok (.newarray .int, 2) := by decide +kernel
theorem d_i11_64 : decode prog_13_method_1_code 64 = .ok (.putfield 29, 3) := by decide +kernel
theorem d_i11_67 : decode prog_13_method_1_code 67 = .ok (.aload_n 0, 1) := by decide +kernel
theorem d_i11_68 : decode prog_13_method_1_code 68 = .ok (.sipush 242, 3) := by decide +kernel
theorem d_i11_71 : decode prog_13_method_1_code 71 = .ok (.newarray .long, 2) := by decide +kernel
theorem d_i11_73 : decode prog_13_method_1_code 73 = .ok (.putfield 32, 3) := by decide +kernel
theorem d_i11_76 : decode prog_13_method_1_code 76 = .ok (.aload_n 0, 1) := by decide +kernel
theorem d_i11_77 : decode prog_13_method_1_code 77 = .ok (.sipush 242, 3) := by decide +kernel
theorem d_i11_80 : decode prog_13_method_1_code 80 = .ok (.newarray .int, 2) := by decide +kernel
theorem d_i11_82 : decode prog_13_method_1_code 82 = .ok (.putfield 35, 3) := by decide +kernel
theorem d_i11_85 : decode prog_13_method_1_code 85 = .ok (.aload_n 0, 1) := by decide +kernel
theorem d_i11_86 : decode prog_13_method_1_code 86 = .ok (.bipush 16, 2) := by decide +kernel
theorem d_i11_88 : decode prog_13_method_1_code 88 = .ok (.newarray .int, 2) := by decide +kernel
theorem d_i11_90 : decode prog_13_method_1_code 90 = .ok (.putfield 38, 3) := by decide +kernel
theorem d_i11_93 : decode prog_13_method_1_code 93 = .ok (.aload_n 0, 1) := by decide +kernel
theorem d_i11_94 : decode prog_13_method_1_code 94 = .ok (.bipush 16, 2) := by decide +kernel
theorem d_i11_96 : decode prog_13_method_1_code 96 = .ok (.newarray .int, 2) := by decide +kernel
theorem d_i11_98 : decode prog_13_method_1_code 98 = .ok (.putfield 41, 3) := by decide +kernel
theorem d_i11_101 : decode prog_13_method_1_code 101 = .ok (.aload_n 0, 1) := by decide +kernel
theorem d_i11_102 : decode prog_13_method_1_code 102 = .ok (.bipush 16, 2) := by decide +kernel
theorem d_i11_104 : decode prog_13_method_1_code 104 = .ok (.newarray .int, 2) := by decide +kernel
theorem d_i11_106 : decode prog_13_method_1_code 106 = .ok (.putfield 44, 3) := by decide +kernel
theorem d_i11_109 : decode prog_13_method_1_code 109 = .ok (.aload_n 0, 1) := by decide +kernel
theorem d_i11_110 : decode prog_13_method_1_code 110 = .ok (.sipush 1000, 3) := by decide +kernel
theorem d_i11_113 : decode prog_13_method_1_code 113 = .ok (.newarray .long, 2) := by decide +kernel
theorem d_i11_115 : decode prog_13_method_1_code 115 = .ok (.putfield 47, 3) := by decide +kernel
theorem d_i11_118 : decode prog_13_method_1_code 118 = .ok (.aload_n 0, 1) := by decide +kernel
theorem d_i11_119 : decode prog_13_method_1_code 119 = .ok (.sipush 1000, 3) := by decide +kernel
theorem d_i11_122 : decode prog_13_method_1_code 122 = .ok (.newarray .int, 2) := by decide +kernel
theorem d_i11_124 : decode prog_13_method_1_code 124 = .ok (.putfield 50, 3) := by decide +kernel
theorem d_i11_127 : decode prog_13_method_1_code 127 = .ok (.aload_n 0, 1) := by decide +kernel
theorem d_i11_128 : decode prog_13_method_1_code 128 = .ok (.bipush 25, 2) := by decide +kernel
theorem d_i11_130 : decode prog_13_method_1_code 130 = .ok (.newarray .int, 2) := by decide +kernel
theorem d_i11_132 : decode prog_13_method_1_code 132 = .ok (.putfield 53, 3) := by decide +kernel
theorem d_i11_135 : decode prog_13_method_1_code 135 = .ok (.aload_n 0, 1) := by decide +kernel
theorem d_i11_136 : decode prog_13_method_1_code 136 = .ok (.bipush 25, 2) := by decide +kernel
theorem d_i11_138 : decode prog_13_method_1_code 138 = .ok (.newarray .int, 2) := by decide +kernel
theorem d_i11_140 : decode prog_13_method_1_code 140 = .ok (.putfield 56, 3) := by decide +kernel
theorem d_i11_143 : decode prog_13_method_1_code 143 = .ok (.aload_n 0, 1) := by decide +kernel
theorem d_i11_144 : decode prog_13_method_1_code 144 = .ok (.sipush 200, 3) := by decide +kernel
theorem d_i11_147 : decode prog_13_method_1_code 147 = .ok (.newarray .int, 2) := by decide +kernel
theorem d_i11_149 : decode prog_13_method_1_code 149 = .ok (.putfield 59, 3) := by decide +kernel
theorem d_i11_152 : decode prog_13_method_1_code 152 = .ok (.aload_n 0, 1) := by decide +kernel
theorem d_i11_153 : decode prog_13_method_1_code 153 = .ok (.sipush 300, 3) := by decide +kernel
theorem d_i11_156 : decode prog_13_method_1_code 156 = .ok (.newarray .long, 2) := by decide +kernel
theorem d_i11_158 : decode prog_13_method_1_code 158 = .ok (.putfield 62, 3) := by decide +kernel
theorem d_i11_161 : decode prog_13_method_1_code 161 = .ok (.aload_n 0, 1) := by decide +kernel
theorem d_i11_162 : decode prog_13_method_1_code 162 = .ok (.bipush 8, 2) := by decide +kernel
theorem d_i11_164 : decode prog_13_method_1_code 164 = .ok (.newarray .int, 2) := by decide +kernel
theorem d_i11_166 : decode prog_13_method_1_code 166 = .ok (.putfield 65, 3) := by decide +kernel
theorem d_i11_169 : decode prog_13_method_1_code 169 = .ok (.aload_n 0, 1) := by decide +kernel
theorem d_i11_170 : decode prog_13_method_1_code 170 = .ok (.bipush 61, 2) := by decide +kernel
theorem d_i11_172 : decode prog_13_method_1_code 172 = .ok (.newarray .int, 2) := by decide +kernel
theorem d_i11_174 : decode prog_13_method_1_code 174 = .ok (.putfield 68, 3) := by decide +kernel
theorem d_i11_177 : decode prog_13_method_1_code 177 = .ok (.aload_n 0, 1) := by decide +kernel
theorem d_i11_178 : decode prog_13_method_1_code 178 = .ok (.bipush 61, 2) := by decide +kernel
theorem d_i11_180 : decode prog_13_method_1_code 180 = .ok (.newarray .int, 2) := by decide +kernel
theorem d_i11_182 : decode prog_13_method_1_code 182 = .ok (.putfield 71, 3) := by decide +kernel
theorem d_i11_185 : decode prog_13_method_1_code 185 = .ok (.aload_n 0, 1) := by decide +kernel
theorem d_i11_186 : decode prog_13_method_1_code 186 = .ok (.bipush 61, 2) := by decide +kernel
theorem d_i11_188 : decode prog_13_method_1_code 188 = .ok (.newarray .int, 2) := by decide +kernel
theorem d_i11_190 : decode prog_13_method_1_code 190 = .ok (.putfield 74, 3) := by decide +kernel
theorem d_i11_193 : decode prog_13_method_1_code 193 = .ok (.aload_n 0, 1) := by decide +kernel
theorem d_i11_194 : decode prog_13_method_1_code 194 = .ok (.bipush 61, 2) := by decide +kernel
theorem d_i11_196 : decode prog_13_method_1_code 196 = .ok (.newarray .int, 2) := by decide +kernel
theorem d_i11_198 : decode prog_13_method_1_code 198 = .ok (.putfield 77, 3) := by decide +kernel
theorem d_i11_201 : decode prog_13_method_1_code 201 = .ok (.aload_n 0, 1) := by decide +kernel
theorem d_i11_202 : decode prog_13_method_1_code 202 = .ok (.sipush 300, 3) := by decide +kernel
theorem d_i11_205 : decode prog_13_method_1_code 205 = .ok (.newarray .int, 2) := by decide +kernel
theorem d_i11_207 : decode prog_13_method_1_code 207 = .ok (.putfield 80, 3) := by decide +kernel
theorem d_i11_210 : decode prog_13_method_1_code 210 = .ok (.aload_n 0, 1) := by decide +kernel
theorem d_i11_211 : decode prog_13_method_1_code 211 = .ok (.sipush 300, 3) := by decide +kernel
theorem d_i11_214 : decode prog_13_method_1_code 214 = .ok (.newarray .int, 2) := by decide +kernel
theorem d_i11_216 : decode prog_13_method_1_code 216 = .ok (.putfield 83, 3) := by decide +kernel
theorem d_i11_219 : decode prog_13_method_1_code 219 = .ok (.aload_n 0, 1) := by decide +kernel
theorem d_i11_220 : decode prog_13_method_1_code 220 = .ok (.sipush 300, 3) := by decide +kernel
theorem d_i11_223 : decode prog_13_method_1_code 223 = .ok (.newarray .int, 2) := by decide +kernel
theorem d_i11_225 : decode prog_13_method_1_code 225 = .ok (.putfield 86, 3) := by decide +kernel
theorem d_i11_228 : decode prog_13_method_1_code 228 = .ok (.aload_n 0, 1) := by decide +kernel
theorem d_i11_229 : decode prog_13_method_1_code 229 = .ok (.sipush 488, 3) := by decide +kernel
theorem d_i11_232 : decode prog_13_method_1_code 232 = .ok (.newarray .int, 2) := by decide +kernel
theorem d_i11_234 : decode prog_13_method_1_code 234 = .ok (.putfield 89, 3) := by decide +kernel
theorem d_i11_237 : decode prog_13_method_1_code 237 = .ok (.aload_n 0, 1) := by decide +kernel
theorem d_i11_238 : decode prog_13_method_1_code 238 = .ok (.sipush 488, 3) := by decide +kernel
theorem d_i11_241 : decode prog_13_method_1_code 241 = .ok (.newarray .int, 2) := by decide +kernel
theorem d_i11_243 : decode prog_13_method_1_code 243 = .ok (.putfield 92, 3) := by decide +kernel
theorem d_i11_246 : decode prog_13_method_1_code 246 = .ok (.aload_n 0, 1) := by decide +kernel
theorem d_i11_247 : decode prog_13_method_1_code 247 = .ok (.sipush 8000, 3) := by decide +kernel
theorem d_i11_250 : decode prog_13_method_1_code 250 = .ok (.newarray .int, 2) := by decide +kernel
theorem d_i11_252 : decode prog_13_method_1_code 252 = .ok (.putfield 95, 3) := by decide +kernel
theorem d_i11_255 : decode prog_13_method_1_code 255 = .ok (.aload_n 0, 1) := by decide +kernel
theorem d_i11_256 : decode prog_13_method_1_code 256 = .ok (.sipush 3000, 3) := by decide +kernel
theorem d_i11_259 : decode prog_13_method_1_code 259 = .ok (.newarray .int, 2) := by decide +kernel
theorem d_i11_261 : decode prog_13_method_1_code 261 = .ok (.putfield 98, 3) := by decide +kernel
theorem d_i11_264 : decode prog_13_method_1_code 264 = .ok (.aload_n 0, 1) := by decide +kernel
theorem d_i11_265 : decode prog_13_method_1_code 265 = .ok (.sipush 488, 3) := by decide +kernel
theorem d_i11_268 : decode prog_13_method_1_code 268 = .ok (.newarray .int, 2) := by decide +kernel
theorem d_i11_270 : decode prog_13_method_1_code 270 = .ok (.putfield 101, 3) := by decide +kernel
theorem d_i11_273 : decode prog_13_method_1_code 273 = .ok (.return_, 1) := by decide +kernel
set_option maxRecDepth 20000 in
theorem k_25 : (Jvm.Cond.methodLink "PrunedSearch" (3 : Nat) ({ cls := "java/lang/Object", name := "<init>", desc := "()V" } : Jvm.MethodName)) ∈ Wt := List.mem_filter.mpr ⟨t_in (t_in1 (List.mem_of_getElem? (i := 25) rfl)), rfl⟩
set_option maxRecDepth 20000 in
theorem k_26 : (Jvm.Cond.instanceMethod ({ cls := "java/lang/Object", name := "<init>", desc := "()V" } : Jvm.MethodName)) ∈ Wt := List.mem_filter.mpr ⟨t_in (t_in1 (List.mem_of_getElem? (i := 26) rfl)), rfl⟩
set_option maxRecDepth 20000 in
theorem k_27 : (Jvm.Cond.code ({ cls := "java/lang/Object", name := "<init>", desc := "()V" } : Jvm.MethodName) object_method_1_code (1 : Nat) (Option.none : Option Jvm.ClassFile.FieldType)) ∈ Wt := List.mem_filter.mpr ⟨t_in (t_in1 (List.mem_of_getElem? (i := 27) rfl)), rfl⟩
set_option maxRecDepth 20000 in
theorem k_28 : (Jvm.Cond.classLink "PrunedSearch" (9 : Nat) "PrunedSearch$Text") ∈ Wt := List.mem_filter.mpr ⟨t_in (t_in1 (List.mem_of_getElem? (i := 28) rfl)), rfl⟩
set_option maxRecDepth 20000 in
theorem k_29 : (Jvm.Cond.instantiable "PrunedSearch$Text" (2 : Nat)) ∈ Wt := List.mem_filter.mpr ⟨t_in (t_in1 (List.mem_of_getElem? (i := 29) rfl)), rfl⟩
set_option maxRecDepth 20000 in
theorem k_30 : (Jvm.Cond.methodLinkNest "PrunedSearch" (11 : Nat) ({ cls := "PrunedSearch$Text", name := "<init>", desc := "()V" } : Jvm.MethodName) "PrunedSearch") ∈ lw_tbl := t_in (t_in1 (List.mem_of_getElem? (i := 30) rfl))
set_option maxRecDepth 20000 in
theorem k_31 : (Jvm.Cond.instanceMethod ({ cls := "PrunedSearch$Text", name := "<init>", desc := "()V" } : Jvm.MethodName)) ∈ Wt := List.mem_filter.mpr ⟨t_in (t_in1 (List.mem_of_getElem? (i := 31) rfl)), rfl⟩
set_option maxRecDepth 20000 in
theorem k_32 : (Jvm.Cond.code ({ cls := "PrunedSearch$Text", name := "<init>", desc := "()V" } : Jvm.MethodName) prog_10_method_1_code (1 : Nat) (Option.none : Option Jvm.ClassFile.FieldType)) ∈ Wt := List.mem_filter.mpr ⟨t_in (t_in1 (List.mem_of_getElem? (i := 32) rfl)), rfl⟩
set_option maxRecDepth 20000 in
theorem k_33 : (Jvm.Cond.methodLink "PrunedSearch$Text" (3 : Nat) ({ cls := "java/lang/Object", name := "<init>", desc := "()V" } : Jvm.MethodName)) ∈ Wt := List.mem_filter.mpr ⟨t_in (t_in1 (List.mem_of_getElem? (i := 33) rfl)), rfl⟩
set_option maxRecDepth 20000 in
theorem k_41 : (Jvm.Cond.arrayClass Jvm.ClassFile.FieldType.char) ∈ Wt := List.mem_filter.mpr ⟨t_in (t_in1 (List.mem_of_getElem? (i := 41) rfl)), rfl⟩
set_option maxRecDepth 20000 in
theorem k_42 : (Jvm.Cond.classLink "PrunedSearch" (16 : Nat) "PrunedSearch$Names") ∈ Wt := List.mem_filter.mpr ⟨t_in (t_in1 (List.mem_of_getElem? (i := 42) rfl)), rfl⟩
set_option maxRecDepth 20000 in
theorem k_43 : (Jvm.Cond.instantiable "PrunedSearch$Names" (4 : Nat)) ∈ Wt := List.mem_filter.mpr ⟨t_in (t_in1 (List.mem_of_getElem? (i := 43) rfl)), rfl⟩
set_option maxRecDepth 20000 in
theorem k_44 : (Jvm.Cond.methodLinkNest "PrunedSearch" (18 : Nat) ({ cls := "PrunedSearch$Names", name := "<init>", desc := "()V" } : Jvm.MethodName) "PrunedSearch") ∈ lw_tbl := t_in (t_in1 (List.mem_of_getElem? (i := 44) rfl))
set_option maxRecDepth 20000 in
theorem k_45 : (Jvm.Cond.instanceMethod ({ cls := "PrunedSearch$Names", name := "<init>", desc := "()V" } : Jvm.MethodName)) ∈ Wt := List.mem_filter.mpr ⟨t_in (t_in1 (List.mem_of_getElem? (i := 45) rfl)), rfl⟩
set_option maxRecDepth 20000 in
theorem k_46 : (Jvm.Cond.code ({ cls := "PrunedSearch$Names", name := "<init>", desc := "()V" } : Jvm.MethodName) prog_6_method_1_code (1 : Nat) (Option.none : Option Jvm.ClassFile.FieldType)) ∈ Wt := List.mem_filter.mpr ⟨t_in (t_in1 (List.mem_of_getElem? (i := 46) rfl)), rfl⟩
set_option maxRecDepth 20000 in
theorem k_47 : (Jvm.Cond.methodLink "PrunedSearch$Names" (3 : Nat) ({ cls := "java/lang/Object", name := "<init>", desc := "()V" } : Jvm.MethodName)) ∈ Wt := List.mem_filter.mpr ⟨t_in (t_in1 (List.mem_of_getElem? (i := 47) rfl)), rfl⟩
set_option maxRecDepth 20000 in
theorem k_61 : (Jvm.Cond.arrayClass Jvm.ClassFile.FieldType.long) ∈ Wt := List.mem_filter.mpr ⟨t_in (t_in1 (List.mem_of_getElem? (i := 61) rfl)), rfl⟩
set_option maxRecDepth 20000 in
theorem k_62 : (Jvm.Cond.classLink "PrunedSearch" (23 : Nat) "PrunedSearch$Code") ∈ Wt := List.mem_filter.mpr ⟨t_in (t_in1 (List.mem_of_getElem? (i := 62) rfl)), rfl⟩
set_option maxRecDepth 20000 in
theorem k_63 : (Jvm.Cond.instantiable "PrunedSearch$Code" (5 : Nat)) ∈ Wt := List.mem_filter.mpr ⟨t_in (t_in1 (List.mem_of_getElem? (i := 63) rfl)), rfl⟩
set_option maxRecDepth 20000 in
theorem k_64 : (Jvm.Cond.methodLink "PrunedSearch" (25 : Nat) ({ cls := "PrunedSearch$Code", name := "<init>", desc := "(II)V" } : Jvm.MethodName)) ∈ Wt := List.mem_filter.mpr ⟨t_in (t_in1 (List.mem_of_getElem? (i := 64) rfl)), rfl⟩
set_option maxRecDepth 20000 in
theorem k_65 : (Jvm.Cond.instanceMethod ({ cls := "PrunedSearch$Code", name := "<init>", desc := "(II)V" } : Jvm.MethodName)) ∈ Wt := List.mem_filter.mpr ⟨t_in (t_in1 (List.mem_of_getElem? (i := 65) rfl)), rfl⟩
set_option maxRecDepth 20000 in
theorem k_66 : (Jvm.Cond.code ({ cls := "PrunedSearch$Code", name := "<init>", desc := "(II)V" } : Jvm.MethodName) prog_4_method_1_code (3 : Nat) (Option.none : Option Jvm.ClassFile.FieldType)) ∈ Wt := List.mem_filter.mpr ⟨t_in (t_in1 (List.mem_of_getElem? (i := 66) rfl)), rfl⟩
set_option maxRecDepth 20000 in
theorem k_67 : (Jvm.Cond.methodLink "PrunedSearch$Code" (3 : Nat) ({ cls := "java/lang/Object", name := "<init>", desc := "()V" } : Jvm.MethodName)) ∈ Wt := List.mem_filter.mpr ⟨t_in (t_in1 (List.mem_of_getElem? (i := 67) rfl)), rfl⟩
set_option maxRecDepth 20000 in
theorem k_84 : (Jvm.Cond.arrayClass Jvm.ClassFile.FieldType.int) ∈ Wt := List.mem_filter.mpr ⟨t_in (t_in1 (List.mem_of_getElem? (i := 84) rfl)), rfl⟩
set_option maxRecDepth 20000 in
theorem k_85 : (Jvm.Cond.classLink "PrunedSearch" (32 : Nat) "PrunedSearch$ClauseReader") ∈ Wt := List.mem_filter.mpr ⟨t_in (t_in1 (List.mem_of_getElem? (i := 85) rfl)), rfl⟩
set_option maxRecDepth 20000 in
theorem k_86 : (Jvm.Cond.instantiable "PrunedSearch$ClauseReader" (10 : Nat)) ∈ Wt := List.mem_filter.mpr ⟨t_in (t_in1 (List.mem_of_getElem? (i := 86) rfl)), rfl⟩
set_option maxRecDepth 20000 in
theorem k_87 : (Jvm.Cond.methodLink "PrunedSearch" (34 : Nat) ({ cls := "PrunedSearch$ClauseReader", name := "<init>", desc := "(LPrunedSearch$Names;)V" } : Jvm.MethodName)) ∈ Wt := List.mem_filter.mpr ⟨t_in (t_in1 (List.mem_of_getElem? (i := 87) rfl)), rfl⟩
set_option maxRecDepth 20000 in
theorem k_88 : (Jvm.Cond.instanceMethod ({ cls := "PrunedSearch$ClauseReader", name := "<init>", desc := "(LPrunedSearch$Names;)V" } : Jvm.MethodName)) ∈ Wt := List.mem_filter.mpr ⟨t_in (t_in1 (List.mem_of_getElem? (i := 88) rfl)), rfl⟩
set_option maxRecDepth 20000 in
theorem k_89 : (Jvm.Cond.code ({ cls := "PrunedSearch$ClauseReader", name := "<init>", desc := "(LPrunedSearch$Names;)V" } : Jvm.MethodName) prog_3_method_1_code (2 : Nat) (Option.none : Option Jvm.ClassFile.FieldType)) ∈ Wt := List.mem_filter.mpr ⟨t_in (t_in1 (List.mem_of_getElem? (i := 89) rfl)), rfl⟩
set_option maxRecDepth 20000 in
theorem k_90 : (Jvm.Cond.methodLink "PrunedSearch$ClauseReader" (3 : Nat) ({ cls := "java/lang/Object", name := "<init>", desc := "()V" } : Jvm.MethodName)) ∈ Wt := List.mem_filter.mpr ⟨t_in (t_in1 (List.mem_of_getElem? (i := 90) rfl)), rfl⟩
set_option maxRecDepth 20000 in
theorem k_91 : (Jvm.Cond.classLink "PrunedSearch$ClauseReader" (9 : Nat) "PrunedSearch$Tokens") ∈ Wt := List.mem_filter.mpr ⟨t_in (t_in1 (List.mem_of_getElem? (i := 91) rfl)), rfl⟩
set_option maxRecDepth 20000 in
theorem k_92 : (Jvm.Cond.instantiable "PrunedSearch$Tokens" (4 : Nat)) ∈ Wt := List.mem_filter.mpr ⟨t_in (t_in1 (List.mem_of_getElem? (i := 92) rfl)), rfl⟩
set_option maxRecDepth 20000 in
theorem k_93 : (Jvm.Cond.methodLinkNest "PrunedSearch$ClauseReader" (11 : Nat) ({ cls := "PrunedSearch$Tokens", name := "<init>", desc := "()V" } : Jvm.MethodName) "PrunedSearch") ∈ lw_tbl := t_in (t_in1 (List.mem_of_getElem? (i := 93) rfl))
set_option maxRecDepth 20000 in
theorem k_94 : (Jvm.Cond.instanceMethod ({ cls := "PrunedSearch$Tokens", name := "<init>", desc := "()V" } : Jvm.MethodName)) ∈ Wt := List.mem_filter.mpr ⟨t_in (t_in1 (List.mem_of_getElem? (i := 94) rfl)), rfl⟩
set_option maxRecDepth 20000 in
theorem k_95 : (Jvm.Cond.code ({ cls := "PrunedSearch$Tokens", name := "<init>", desc := "()V" } : Jvm.MethodName) prog_11_method_1_code (1 : Nat) (Option.none : Option Jvm.ClassFile.FieldType)) ∈ Wt := List.mem_filter.mpr ⟨t_in (t_in1 (List.mem_of_getElem? (i := 95) rfl)), rfl⟩
set_option maxRecDepth 20000 in
theorem k_96 : (Jvm.Cond.methodLink "PrunedSearch$Tokens" (3 : Nat) ({ cls := "java/lang/Object", name := "<init>", desc := "()V" } : Jvm.MethodName)) ∈ Wt := List.mem_filter.mpr ⟨t_in (t_in1 (List.mem_of_getElem? (i := 96) rfl)), rfl⟩
set_option maxRecDepth 20000 in
theorem k_110 : (Jvm.Cond.classLink "PrunedSearch$ClauseReader" (18 : Nat) "PrunedSearch$Code") ∈ Wt := List.mem_filter.mpr ⟨t_in (t_in1 (List.mem_of_getElem? (i := 110) rfl)), rfl⟩
set_option maxRecDepth 20000 in
theorem k_111 : (Jvm.Cond.methodLink "PrunedSearch$ClauseReader" (20 : Nat) ({ cls := "PrunedSearch$Code", name := "<init>", desc := "(II)V" } : Jvm.MethodName)) ∈ Wt := List.mem_filter.mpr ⟨t_in (t_in1 (List.mem_of_getElem? (i := 111) rfl)), rfl⟩
set_option maxRecDepth 20000 in
theorem k_143 : (Jvm.Cond.classLink "PrunedSearch" (41 : Nat) "PrunedSearch$Search") ∈ Wt := List.mem_filter.mpr ⟨t_in (t_in1 (List.mem_of_getElem? (i := 143) rfl)), rfl⟩
set_option maxRecDepth 20000 in
theorem k_144 : (Jvm.Cond.instantiable "PrunedSearch$Search" (14 : Nat)) ∈ Wt := List.mem_filter.mpr ⟨t_in (t_in1 (List.mem_of_getElem? (i := 144) rfl)), rfl⟩
set_option maxRecDepth 20000 in
theorem k_145 : (Jvm.Cond.methodLink "PrunedSearch" (43 : Nat) ({ cls := "PrunedSearch$Search", name := "<init>", desc := "(LPrunedSearch$Code;LPrunedSearch$Names;)V" } : Jvm.MethodName)) ∈ Wt := List.mem_filter.mpr ⟨t_in (t_in1 (List.mem_of_getElem? (i := 145) rfl)), rfl⟩
set_option maxRecDepth 20000 in
theorem k_146 : (Jvm.Cond.instanceMethod ({ cls := "PrunedSearch$Search", name := "<init>", desc := "(LPrunedSearch$Code;LPrunedSearch$Names;)V" } : Jvm.MethodName)) ∈ Wt := List.mem_filter.mpr ⟨t_in (t_in1 (List.mem_of_getElem? (i := 146) rfl)), rfl⟩
set_option maxRecDepth 20000 in
theorem k_147 : (Jvm.Cond.code ({ cls := "PrunedSearch$Search", name := "<init>", desc := "(LPrunedSearch$Code;LPrunedSearch$Names;)V" } : Jvm.MethodName) prog_7_method_1_code (3 : Nat) (Option.none : Option Jvm.ClassFile.FieldType)) ∈ Wt := List.mem_filter.mpr ⟨t_in (t_in1 (List.mem_of_getElem? (i := 147) rfl)), rfl⟩
set_option maxRecDepth 20000 in
theorem k_148 : (Jvm.Cond.methodLink "PrunedSearch$Search" (3 : Nat) ({ cls := "java/lang/Object", name := "<init>", desc := "()V" } : Jvm.MethodName)) ∈ Wt := List.mem_filter.mpr ⟨t_in (t_in1 (List.mem_of_getElem? (i := 148) rfl)), rfl⟩
set_option maxRecDepth 20000 in
theorem k_149 : (Jvm.Cond.classLink "PrunedSearch$Search" (9 : Nat) "PrunedSearch$Terms") ∈ Wt := List.mem_filter.mpr ⟨t_in (t_in1 (List.mem_of_getElem? (i := 149) rfl)), rfl⟩
set_option maxRecDepth 20000 in
theorem k_150 : (Jvm.Cond.instantiable "PrunedSearch$Terms" (11 : Nat)) ∈ Wt := List.mem_filter.mpr ⟨t_in (t_in1 (List.mem_of_getElem? (i := 150) rfl)), rfl⟩
set_option maxRecDepth 20000 in
theorem k_151 : (Jvm.Cond.methodLinkNest "PrunedSearch$Search" (11 : Nat) ({ cls := "PrunedSearch$Terms", name := "<init>", desc := "()V" } : Jvm.MethodName) "PrunedSearch") ∈ lw_tbl := t_in (t_in1 (List.mem_of_getElem? (i := 151) rfl))
set_option maxRecDepth 20000 in
theorem k_152 : (Jvm.Cond.instanceMethod ({ cls := "PrunedSearch$Terms", name := "<init>", desc := "()V" } : Jvm.MethodName)) ∈ Wt := List.mem_filter.mpr ⟨t_in (t_in1 (List.mem_of_getElem? (i := 152) rfl)), rfl⟩
set_option maxRecDepth 20000 in
theorem k_153 : (Jvm.Cond.code ({ cls := "PrunedSearch$Terms", name := "<init>", desc := "()V" } : Jvm.MethodName) prog_9_method_1_code (1 : Nat) (Option.none : Option Jvm.ClassFile.FieldType)) ∈ Wt := List.mem_filter.mpr ⟨t_in (t_in1 (List.mem_of_getElem? (i := 153) rfl)), rfl⟩
set_option maxRecDepth 20000 in
theorem k_154 : (Jvm.Cond.methodLink "PrunedSearch$Terms" (3 : Nat) ({ cls := "java/lang/Object", name := "<init>", desc := "()V" } : Jvm.MethodName)) ∈ Wt := List.mem_filter.mpr ⟨t_in (t_in1 (List.mem_of_getElem? (i := 154) rfl)), rfl⟩
set_option maxRecDepth 20000 in
theorem k_189 : (Jvm.Cond.classLink "PrunedSearch$Search" (18 : Nat) "PrunedSearch$Goals") ∈ Wt := List.mem_filter.mpr ⟨t_in (t_in1 (List.mem_of_getElem? (i := 189) rfl)), rfl⟩
set_option maxRecDepth 20000 in
theorem k_190 : (Jvm.Cond.instantiable "PrunedSearch$Goals" (5 : Nat)) ∈ Wt := List.mem_filter.mpr ⟨t_in (t_in1 (List.mem_of_getElem? (i := 190) rfl)), rfl⟩
set_option maxRecDepth 20000 in
theorem k_191 : (Jvm.Cond.methodLinkNest "PrunedSearch$Search" (20 : Nat) ({ cls := "PrunedSearch$Goals", name := "<init>", desc := "()V" } : Jvm.MethodName) "PrunedSearch") ∈ lw_tbl := t_in (t_in1 (List.mem_of_getElem? (i := 191) rfl))
set_option maxRecDepth 20000 in
theorem k_192 : (Jvm.Cond.instanceMethod ({ cls := "PrunedSearch$Goals", name := "<init>", desc := "()V" } : Jvm.MethodName)) ∈ Wt := List.mem_filter.mpr ⟨t_in (t_in1 (List.mem_of_getElem? (i := 192) rfl)), rfl⟩
set_option maxRecDepth 20000 in
theorem k_193 : (Jvm.Cond.code ({ cls := "PrunedSearch$Goals", name := "<init>", desc := "()V" } : Jvm.MethodName) prog_5_method_1_code (1 : Nat) (Option.none : Option Jvm.ClassFile.FieldType)) ∈ Wt := List.mem_filter.mpr ⟨t_in (t_in1 (List.mem_of_getElem? (i := 193) rfl)), rfl⟩
set_option maxRecDepth 20000 in
theorem k_194 : (Jvm.Cond.methodLink "PrunedSearch$Goals" (3 : Nat) ({ cls := "java/lang/Object", name := "<init>", desc := "()V" } : Jvm.MethodName)) ∈ Wt := List.mem_filter.mpr ⟨t_in (t_in1 (List.mem_of_getElem? (i := 194) rfl)), rfl⟩
set_option maxRecDepth 20000 in
theorem k_211 : (Jvm.Cond.classLink "PrunedSearch$Search" (25 : Nat) "PrunedSearch$Choices") ∈ Wt := List.mem_filter.mpr ⟨t_in (t_in1 (List.mem_of_getElem? (i := 211) rfl)), rfl⟩
set_option maxRecDepth 20000 in
theorem k_212 : (Jvm.Cond.instantiable "PrunedSearch$Choices" (7 : Nat)) ∈ Wt := List.mem_filter.mpr ⟨t_in (t_in1 (List.mem_of_getElem? (i := 212) rfl)), rfl⟩
set_option maxRecDepth 20000 in
theorem k_213 : (Jvm.Cond.methodLinkNest "PrunedSearch$Search" (27 : Nat) ({ cls := "PrunedSearch$Choices", name := "<init>", desc := "()V" } : Jvm.MethodName) "PrunedSearch") ∈ lw_tbl := t_in (t_in1 (List.mem_of_getElem? (i := 213) rfl))
set_option maxRecDepth 20000 in
theorem k_214 : (Jvm.Cond.instanceMethod ({ cls := "PrunedSearch$Choices", name := "<init>", desc := "()V" } : Jvm.MethodName)) ∈ Wt := List.mem_filter.mpr ⟨t_in (t_in1 (List.mem_of_getElem? (i := 214) rfl)), rfl⟩
set_option maxRecDepth 20000 in
theorem k_215 : (Jvm.Cond.code ({ cls := "PrunedSearch$Choices", name := "<init>", desc := "()V" } : Jvm.MethodName) prog_2_method_1_code (1 : Nat) (Option.none : Option Jvm.ClassFile.FieldType)) ∈ Wt := List.mem_filter.mpr ⟨t_in (t_in1 (List.mem_of_getElem? (i := 215) rfl)), rfl⟩
set_option maxRecDepth 20000 in
theorem k_216 : (Jvm.Cond.methodLink "PrunedSearch$Choices" (3 : Nat) ({ cls := "java/lang/Object", name := "<init>", desc := "()V" } : Jvm.MethodName)) ∈ Wt := List.mem_filter.mpr ⟨t_in (t_in1 (List.mem_of_getElem? (i := 216) rfl)), rfl⟩
set_option maxRecDepth 20000 in
theorem k_239 : (Jvm.Cond.classLink "PrunedSearch$Search" (48 : Nat) "PrunedSearch$TermWriter") ∈ Wt := List.mem_filter.mpr ⟨t_in (t_in1 (List.mem_of_getElem? (i := 239) rfl)), rfl⟩
set_option maxRecDepth 20000 in
theorem k_240 : (Jvm.Cond.instantiable "PrunedSearch$TermWriter" (10 : Nat)) ∈ Wt := List.mem_filter.mpr ⟨t_in (t_in2 (List.mem_of_getElem? (i := 0) rfl)), rfl⟩
set_option maxRecDepth 20000 in
theorem k_241 : (Jvm.Cond.methodLink "PrunedSearch$Search" (50 : Nat) ({ cls := "PrunedSearch$TermWriter", name := "<init>", desc := "(LPrunedSearch$Terms;LPrunedSearch$Names;)V" } : Jvm.MethodName)) ∈ Wt := List.mem_filter.mpr ⟨t_in (t_in2 (List.mem_of_getElem? (i := 1) rfl)), rfl⟩
set_option maxRecDepth 20000 in
theorem k_242 : (Jvm.Cond.instanceMethod ({ cls := "PrunedSearch$TermWriter", name := "<init>", desc := "(LPrunedSearch$Terms;LPrunedSearch$Names;)V" } : Jvm.MethodName)) ∈ Wt := List.mem_filter.mpr ⟨t_in (t_in2 (List.mem_of_getElem? (i := 2) rfl)), rfl⟩
set_option maxRecDepth 20000 in
theorem k_243 : (Jvm.Cond.code ({ cls := "PrunedSearch$TermWriter", name := "<init>", desc := "(LPrunedSearch$Terms;LPrunedSearch$Names;)V" } : Jvm.MethodName) prog_8_method_1_code (3 : Nat) (Option.none : Option Jvm.ClassFile.FieldType)) ∈ Wt := List.mem_filter.mpr ⟨t_in (t_in2 (List.mem_of_getElem? (i := 3) rfl)), rfl⟩
set_option maxRecDepth 20000 in
theorem k_244 : (Jvm.Cond.methodLink "PrunedSearch$TermWriter" (3 : Nat) ({ cls := "java/lang/Object", name := "<init>", desc := "()V" } : Jvm.MethodName)) ∈ Wt := List.mem_filter.mpr ⟨t_in (t_in2 (List.mem_of_getElem? (i := 4) rfl)), rfl⟩
set_option maxRecDepth 20000 in
theorem k_967 : (Jvm.Cond.methodLink "PrunedSearchModel" (1 : Nat) ({ cls := "java/lang/Object", name := "<init>", desc := "()V" } : Jvm.MethodName)) ∈ Wt := List.mem_filter.mpr ⟨t_in (t_in5 (List.mem_of_getElem? (i := 7) rfl)), rfl⟩
