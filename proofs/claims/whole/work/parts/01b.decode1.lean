theorem dJ9_max_7cf53_0 : decode cJ9_max_7cf53 0 = .ok (.iload_n 0, 1) := by decide +kernel
theorem dJ9_max_7cf53_1 : decode cJ9_max_7cf53 1 = .ok (.iload_n 1, 1) := by decide +kernel
theorem dJ9_max_7cf53_2 : decode cJ9_max_7cf53 2 = .ok (.if_icmp .lt 7, 3) := by decide +kernel
theorem dJ9_max_7cf53_5 : decode cJ9_max_7cf53 5 = .ok (.iload_n 0, 1) := by decide +kernel
theorem dJ9_max_7cf53_6 : decode cJ9_max_7cf53 6 = .ok (.goto 4, 3) := by decide +kernel
theorem dJ9_max_7cf53_9 : decode cJ9_max_7cf53 9 = .ok (.iload_n 1, 1) := by decide +kernel
theorem dJ9_max_7cf53_10 : decode cJ9_max_7cf53 10 = .ok (.ireturn, 1) := by decide +kernel
theorem dJ9_min_7cf53_0 : decode cJ9_min_7cf53 0 = .ok (.iload_n 0, 1) := by decide +kernel
theorem dJ9_min_7cf53_1 : decode cJ9_min_7cf53 1 = .ok (.iload_n 1, 1) := by decide +kernel
theorem dJ9_min_7cf53_2 : decode cJ9_min_7cf53 2 = .ok (.if_icmp .gt 7, 3) := by decide +kernel
theorem dJ9_min_7cf53_5 : decode cJ9_min_7cf53 5 = .ok (.iload_n 0, 1) := by decide +kernel
theorem dJ9_min_7cf53_6 : decode cJ9_min_7cf53 6 = .ok (.goto 4, 3) := by decide +kernel
theorem dJ9_min_7cf53_9 : decode cJ9_min_7cf53 9 = .ok (.iload_n 1, 1) := by decide +kernel
theorem dJ9_min_7cf53_10 : decode cJ9_min_7cf53 10 = .ok (.ireturn, 1) := by decide +kernel
theorem dJ13_bitCount_95d88_0 : decode cJ13_bitCount_95d88 0 = .ok (.lload_n 0, 1) := by decide +kernel
theorem dJ13_bitCount_95d88_1 : decode cJ13_bitCount_95d88 1 = .ok (.lload_n 0, 1) := by decide +kernel
theorem dJ13_bitCount_95d88_2 : decode cJ13_bitCount_95d88 2 = .ok (.iconst 1, 1) := by decide +kernel
theorem dJ13_bitCount_95d88_3 : decode cJ13_bitCount_95d88 3 = .ok (.lushr, 1) := by decide +kernel
theorem dJ13_bitCount_95d88_4 : decode cJ13_bitCount_95d88 4 = .ok (.ldc2_w 314, 3) := by decide +kernel
theorem dJ13_bitCount_95d88_7 : decode cJ13_bitCount_95d88 7 = .ok (.land, 1) := by decide +kernel
theorem dJ13_bitCount_95d88_8 : decode cJ13_bitCount_95d88 8 = .ok (.lsub, 1) := by decide +kernel
theorem dJ13_bitCount_95d88_9 : decode cJ13_bitCount_95d88 9 = .ok (.lstore_n 0, 1) := by decide +kernel
theorem dJ13_bitCount_95d88_10 : decode cJ13_bitCount_95d88 10 = .ok (.lload_n 0, 1) := by decide +kernel
theorem dJ13_bitCount_95d88_11 : decode cJ13_bitCount_95d88 11 = .ok (.ldc2_w 316, 3) := by decide +kernel
theorem dJ13_bitCount_95d88_14 : decode cJ13_bitCount_95d88 14 = .ok (.land, 1) := by decide +kernel
theorem dJ13_bitCount_95d88_15 : decode cJ13_bitCount_95d88 15 = .ok (.lload_n 0, 1) := by decide +kernel
theorem dJ13_bitCount_95d88_16 : decode cJ13_bitCount_95d88 16 = .ok (.iconst 2, 1) := by decide +kernel
theorem dJ13_bitCount_95d88_17 : decode cJ13_bitCount_95d88 17 = .ok (.lushr, 1) := by decide +kernel
theorem dJ13_bitCount_95d88_18 : decode cJ13_bitCount_95d88 18 = .ok (.ldc2_w 316, 3) := by decide +kernel
theorem dJ13_bitCount_95d88_21 : decode cJ13_bitCount_95d88 21 = .ok (.land, 1) := by decide +kernel
theorem dJ13_bitCount_95d88_22 : decode cJ13_bitCount_95d88 22 = .ok (.ladd, 1) := by decide +kernel
theorem dJ13_bitCount_95d88_23 : decode cJ13_bitCount_95d88 23 = .ok (.lstore_n 0, 1) := by decide +kernel
theorem dJ13_bitCount_95d88_24 : decode cJ13_bitCount_95d88 24 = .ok (.lload_n 0, 1) := by decide +kernel
theorem dJ13_bitCount_95d88_25 : decode cJ13_bitCount_95d88 25 = .ok (.lload_n 0, 1) := by decide +kernel
theorem dJ13_bitCount_95d88_26 : decode cJ13_bitCount_95d88 26 = .ok (.iconst 4, 1) := by decide +kernel
theorem dJ13_bitCount_95d88_27 : decode cJ13_bitCount_95d88 27 = .ok (.lushr, 1) := by decide +kernel
theorem dJ13_bitCount_95d88_28 : decode cJ13_bitCount_95d88 28 = .ok (.ladd, 1) := by decide +kernel
theorem dJ13_bitCount_95d88_29 : decode cJ13_bitCount_95d88 29 = .ok (.ldc2_w 318, 3) := by decide +kernel
theorem dJ13_bitCount_95d88_32 : decode cJ13_bitCount_95d88 32 = .ok (.land, 1) := by decide +kernel
theorem dJ13_bitCount_95d88_33 : decode cJ13_bitCount_95d88 33 = .ok (.lstore_n 0, 1) := by decide +kernel
theorem dJ13_bitCount_95d88_34 : decode cJ13_bitCount_95d88 34 = .ok (.lload_n 0, 1) := by decide +kernel
theorem dJ13_bitCount_95d88_35 : decode cJ13_bitCount_95d88 35 = .ok (.lload_n 0, 1) := by decide +kernel
theorem dJ13_bitCount_95d88_36 : decode cJ13_bitCount_95d88 36 = .ok (.bipush 8, 2) := by decide +kernel
theorem dJ13_bitCount_95d88_38 : decode cJ13_bitCount_95d88 38 = .ok (.lushr, 1) := by decide +kernel
theorem dJ13_bitCount_95d88_39 : decode cJ13_bitCount_95d88 39 = .ok (.ladd, 1) := by decide +kernel
theorem dJ13_bitCount_95d88_40 : decode cJ13_bitCount_95d88 40 = .ok (.lstore_n 0, 1) := by decide +kernel
theorem dJ13_bitCount_95d88_41 : decode cJ13_bitCount_95d88 41 = .ok (.lload_n 0, 1) := by decide +kernel
theorem dJ13_bitCount_95d88_42 : decode cJ13_bitCount_95d88 42 = .ok (.lload_n 0, 1) := by decide +kernel
theorem dJ13_bitCount_95d88_43 : decode cJ13_bitCount_95d88 43 = .ok (.bipush 16, 2) := by decide +kernel
theorem dJ13_bitCount_95d88_45 : decode cJ13_bitCount_95d88 45 = .ok (.lushr, 1) := by decide +kernel
theorem dJ13_bitCount_95d88_46 : decode cJ13_bitCount_95d88 46 = .ok (.ladd, 1) := by decide +kernel
theorem dJ13_bitCount_95d88_47 : decode cJ13_bitCount_95d88 47 = .ok (.lstore_n 0, 1) := by decide +kernel
theorem dJ13_bitCount_95d88_48 : decode cJ13_bitCount_95d88 48 = .ok (.lload_n 0, 1) := by decide +kernel
theorem dJ13_bitCount_95d88_49 : decode cJ13_bitCount_95d88 49 = .ok (.lload_n 0, 1) := by decide +kernel
theorem dJ13_bitCount_95d88_50 : decode cJ13_bitCount_95d88 50 = .ok (.bipush 32, 2) := by decide +kernel
theorem dJ13_bitCount_95d88_52 : decode cJ13_bitCount_95d88 52 = .ok (.lushr, 1) := by decide +kernel
theorem dJ13_bitCount_95d88_53 : decode cJ13_bitCount_95d88 53 = .ok (.ladd, 1) := by decide +kernel
theorem dJ13_bitCount_95d88_54 : decode cJ13_bitCount_95d88 54 = .ok (.lstore_n 0, 1) := by decide +kernel
theorem dJ13_bitCount_95d88_55 : decode cJ13_bitCount_95d88 55 = .ok (.lload_n 0, 1) := by decide +kernel
theorem dJ13_bitCount_95d88_56 : decode cJ13_bitCount_95d88 56 = .ok (.l2i, 1) := by decide +kernel
theorem dJ13_bitCount_95d88_57 : decode cJ13_bitCount_95d88 57 = .ok (.bipush 127, 2) := by decide +kernel
theorem dJ13_bitCount_95d88_59 : decode cJ13_bitCount_95d88 59 = .ok (.iand, 1) := by decide +kernel
theorem dJ13_bitCount_95d88_60 : decode cJ13_bitCount_95d88 60 = .ok (.ireturn, 1) := by decide +kernel
theorem dJ7_fill_53178_0 : decode cJ7_fill_53178 0 = .ok (.iconst 0, 1) := by decide +kernel
theorem dJ7_fill_53178_1 : decode cJ7_fill_53178 1 = .ok (.istore_n 2, 1) := by decide +kernel
theorem dJ7_fill_53178_2 : decode cJ7_fill_53178 2 = .ok (.aload_n 0, 1) := by decide +kernel
theorem dJ7_fill_53178_3 : decode cJ7_fill_53178 3 = .ok (.arraylength, 1) := by decide +kernel
theorem dJ7_fill_53178_4 : decode cJ7_fill_53178 4 = .ok (.istore_n 3, 1) := by decide +kernel
theorem dJ7_fill_53178_5 : decode cJ7_fill_53178 5 = .ok (.iload_n 2, 1) := by decide +kernel
theorem dJ7_fill_53178_6 : decode cJ7_fill_53178 6 = .ok (.iload_n 3, 1) := by decide +kernel
theorem dJ7_fill_53178_7 : decode cJ7_fill_53178 7 = .ok (.if_icmp .ge 13, 3) := by decide +kernel
theorem dJ7_fill_53178_10 : decode cJ7_fill_53178 10 = .ok (.aload_n 0, 1) := by decide +kernel
theorem dJ7_fill_53178_11 : decode cJ7_fill_53178 11 = .ok (.iload_n 2, 1) := by decide +kernel
theorem dJ7_fill_53178_12 : decode cJ7_fill_53178 12 = .ok (.iload_n 1, 1) := by decide +kernel
theorem dJ7_fill_53178_13 : decode cJ7_fill_53178 13 = .ok (.iastore, 1) := by decide +kernel
theorem dJ7_fill_53178_14 : decode cJ7_fill_53178 14 = .ok (.iinc 2 1, 3) := by decide +kernel
theorem dJ7_fill_53178_17 : decode cJ7_fill_53178 17 = .ok (.goto (-12), 3) := by decide +kernel
theorem dJ7_fill_53178_20 : decode cJ7_fill_53178 20 = .ok (.return_, 1) := by decide +kernel
theorem dJ0_length_8abf5_0 : decode cJ0_length_8abf5 0 = .ok (.aload_n 0, 1) := by decide +kernel
theorem dJ0_length_8abf5_1 : decode cJ0_length_8abf5 1 = .ok (.getfield 9, 3) := by decide +kernel
theorem dJ0_length_8abf5_4 : decode cJ0_length_8abf5 4 = .ok (.arraylength, 1) := by decide +kernel
theorem dJ0_length_8abf5_5 : decode cJ0_length_8abf5 5 = .ok (.aload_n 0, 1) := by decide +kernel
theorem dJ0_length_8abf5_6 : decode cJ0_length_8abf5 6 = .ok (.invokevirtual 335, 3) := by decide +kernel
theorem dJ0_length_8abf5_9 : decode cJ0_length_8abf5 9 = .ok (.ishr, 1) := by decide +kernel
theorem dJ0_length_8abf5_10 : decode cJ0_length_8abf5 10 = .ok (.ireturn, 1) := by decide +kernel
theorem dJ0_charAt_5068e_0 : decode cJ0_charAt_5068e 0 = .ok (.aload_n 0, 1) := by decide +kernel
theorem dJ0_charAt_5068e_1 : decode cJ0_charAt_5068e 1 = .ok (.invokevirtual 492, 3) := by decide +kernel
theorem dJ0_charAt_5068e_4 : decode cJ0_charAt_5068e 4 = .ok (.ifCond .eq 12, 3) := by decide +kernel
theorem dJ0_charAt_5068e_7 : decode cJ0_charAt_5068e 7 = .ok (.aload_n 0, 1) := by decide +kernel
theorem dJ0_charAt_5068e_8 : decode cJ0_charAt_5068e 8 = .ok (.getfield 9, 3) := by decide +kernel
theorem dJ0_charAt_5068e_11 : decode cJ0_charAt_5068e 11 = .ok (.iload_n 1, 1) := by decide +kernel
theorem dJ0_charAt_5068e_12 : decode cJ0_charAt_5068e 12 = .ok (.invokestatic 495, 3) := by decide +kernel
theorem dJ0_charAt_5068e_15 : decode cJ0_charAt_5068e 15 = .ok (.ireturn, 1) := by decide +kernel
theorem dJ0_charAt_5068e_16 : decode cJ0_charAt_5068e 16 = .ok (.aload_n 0, 1) := by decide +kernel
theorem dJ0_charAt_5068e_17 : decode cJ0_charAt_5068e 17 = .ok (.getfield 9, 3) := by decide +kernel
theorem dJ0_charAt_5068e_20 : decode cJ0_charAt_5068e 20 = .ok (.iload_n 1, 1) := by decide +kernel
theorem dJ0_charAt_5068e_21 : decode cJ0_charAt_5068e 21 = .ok (.invokestatic 498, 3) := by decide +kernel
theorem dJ0_charAt_5068e_24 : decode cJ0_charAt_5068e 24 = .ok (.ireturn, 1) := by decide +kernel
theorem dJ0_coder_7d493_0 : decode cJ0_coder_7d493 0 = .ok (.getstatic 38, 3) := by decide +kernel
theorem dJ0_coder_7d493_3 : decode cJ0_coder_7d493 3 = .ok (.ifCond .eq 10, 3) := by decide +kernel
theorem dJ0_coder_7d493_6 : decode cJ0_coder_7d493 6 = .ok (.aload_n 0, 1) := by decide +kernel
theorem dJ0_coder_7d493_7 : decode cJ0_coder_7d493 7 = .ok (.getfield 15, 3) := by decide +kernel
theorem dJ0_coder_7d493_10 : decode cJ0_coder_7d493 10 = .ok (.goto 4, 3) := by decide +kernel
theorem dJ0_coder_7d493_13 : decode cJ0_coder_7d493 13 = .ok (.iconst 1, 1) := by decide +kernel
theorem dJ0_coder_7d493_14 : decode cJ0_coder_7d493 14 = .ok (.ireturn, 1) := by decide +kernel
theorem dJ0_isLatin1_aae02_0 : decode cJ0_isLatin1_aae02 0 = .ok (.getstatic 38, 3) := by decide +kernel
theorem dJ0_isLatin1_aae02_3 : decode cJ0_isLatin1_aae02 3 = .ok (.ifCond .eq 14, 3) := by decide +kernel
theorem dJ0_isLatin1_aae02_6 : decode cJ0_isLatin1_aae02 6 = .ok (.aload_n 0, 1) := by decide +kernel
theorem dJ0_isLatin1_aae02_7 : decode cJ0_isLatin1_aae02 7 = .ok (.getfield 15, 3) := by decide +kernel
theorem dJ0_isLatin1_aae02_10 : decode cJ0_isLatin1_aae02 10 = .ok (.ifCond .ne 7, 3) := by decide +kernel
theorem dJ0_isLatin1_aae02_13 : decode cJ0_isLatin1_aae02 13 = .ok (.iconst 1, 1) := by decide +kernel
theorem dJ0_isLatin1_aae02_14 : decode cJ0_isLatin1_aae02 14 = .ok (.goto 4, 3) := by decide +kernel
theorem dJ0_isLatin1_aae02_17 : decode cJ0_isLatin1_aae02 17 = .ok (.iconst 0, 1) := by decide +kernel
theorem dJ0_isLatin1_aae02_18 : decode cJ0_isLatin1_aae02 18 = .ok (.ireturn, 1) := by decide +kernel
theorem dJ0_checkIndex_df160_0 : decode cJ0_checkIndex_df160 0 = .ok (.iload_n 0, 1) := by decide +kernel
theorem dJ0_checkIndex_df160_1 : decode cJ0_checkIndex_df160 1 = .ok (.iload_n 1, 1) := by decide +kernel
theorem dJ0_checkIndex_df160_2 : decode cJ0_checkIndex_df160 2 = .ok (.getstatic 1053, 3) := by decide +kernel
theorem dJ0_checkIndex_df160_5 : decode cJ0_checkIndex_df160 5 = .ok (.invokestatic 1059, 3) := by decide +kernel
theorem dJ0_checkIndex_df160_8 : decode cJ0_checkIndex_df160 8 = .ok (.pop, 1) := by decide +kernel
theorem dJ0_checkIndex_df160_9 : decode cJ0_checkIndex_df160 9 = .ok (.return_, 1) := by decide +kernel
theorem dJ1_charAt_3b067_0 : decode cJ1_charAt_3b067 0 = .ok (.iload_n 1, 1) := by decide +kernel
theorem dJ1_charAt_3b067_1 : decode cJ1_charAt_3b067 1 = .ok (.aload_n 0, 1) := by decide +kernel
theorem dJ1_charAt_3b067_2 : decode cJ1_charAt_3b067 2 = .ok (.arraylength, 1) := by decide +kernel
theorem dJ1_charAt_3b067_3 : decode cJ1_charAt_3b067 3 = .ok (.invokestatic 9, 3) := by decide +kernel
theorem dJ1_charAt_3b067_6 : decode cJ1_charAt_3b067 6 = .ok (.aload_n 0, 1) := by decide +kernel
theorem dJ1_charAt_3b067_7 : decode cJ1_charAt_3b067 7 = .ok (.iload_n 1, 1) := by decide +kernel
theorem dJ1_charAt_3b067_8 : decode cJ1_charAt_3b067 8 = .ok (.baload, 1) := by decide +kernel
theorem dJ1_charAt_3b067_9 : decode cJ1_charAt_3b067 9 = .ok (.sipush 255, 3) := by decide +kernel
theorem dJ1_charAt_3b067_12 : decode cJ1_charAt_3b067 12 = .ok (.iand, 1) := by decide +kernel
theorem dJ1_charAt_3b067_13 : decode cJ1_charAt_3b067 13 = .ok (.i2c, 1) := by decide +kernel
theorem dJ1_charAt_3b067_14 : decode cJ1_charAt_3b067 14 = .ok (.ireturn, 1) := by decide +kernel
theorem dJ2_getChar_3b067_0 : decode cJ2_getChar_3b067 0 = .ok (.getstatic 44, 3) := by decide +kernel
theorem dJ2_getChar_3b067_3 : decode cJ2_getChar_3b067 3 = .ok (.ifCond .ne 25, 3) := by decide +kernel
theorem dJ2_getChar_3b067_6 : decode cJ2_getChar_3b067 6 = .ok (.iload_n 1, 1) := by decide +kernel
theorem dJ2_getChar_3b067_7 : decode cJ2_getChar_3b067 7 = .ok (.ifCond .lt 11, 3) := by decide +kernel
theorem dJ2_getChar_3b067_10 : decode cJ2_getChar_3b067 10 = .ok (.iload_n 1, 1) := by decide +kernel
theorem dJ2_getChar_3b067_11 : decode cJ2_getChar_3b067 11 = .ok (.aload_n 0, 1) := by decide +kernel
theorem dJ2_getChar_3b067_12 : decode cJ2_getChar_3b067 12 = .ok (.invokestatic 48, 3) := by decide +kernel
theorem dJ2_getChar_3b067_15 : decode cJ2_getChar_3b067 15 = .ok (.if_icmp .lt 13, 3) := by decide +kernel
theorem dJ2_getChar_3b067_18 : decode cJ2_getChar_3b067 18 = .ok (.new 52, 3) := by decide +kernel
theorem dJ2_getChar_3b067_21 : decode cJ2_getChar_3b067 21 = .ok (.dup, 1) := by decide +kernel
theorem dJ2_getChar_3b067_22 : decode cJ2_getChar_3b067 22 = .ok (.ldc 54, 2) := by decide +kernel
theorem dJ2_getChar_3b067_24 : decode cJ2_getChar_3b067 24 = .ok (.invokespecial 56, 3) := by decide +kernel
theorem dJ2_getChar_3b067_27 : decode cJ2_getChar_3b067 27 = .ok (.athrow, 1) := by decide +kernel
theorem dJ2_getChar_3b067_28 : decode cJ2_getChar_3b067 28 = .ok (.iload_n 1, 1) := by decide +kernel
theorem dJ2_getChar_3b067_29 : decode cJ2_getChar_3b067 29 = .ok (.iconst 1, 1) := by decide +kernel
theorem dJ2_getChar_3b067_30 : decode cJ2_getChar_3b067 30 = .ok (.ishl, 1) := by decide +kernel
theorem dJ2_getChar_3b067_31 : decode cJ2_getChar_3b067 31 = .ok (.istore_n 1, 1) := by decide +kernel
theorem dJ2_getChar_3b067_32 : decode cJ2_getChar_3b067 32 = .ok (.aload_n 0, 1) := by decide +kernel
theorem dJ2_getChar_3b067_33 : decode cJ2_getChar_3b067 33 = .ok (.iload_n 1, 1) := by decide +kernel
theorem dJ2_getChar_3b067_34 : decode cJ2_getChar_3b067 34 = .ok (.iinc 1 1, 3) := by decide +kernel
theorem dJ2_getChar_3b067_37 : decode cJ2_getChar_3b067 37 = .ok (.baload, 1) := by decide +kernel
theorem dJ2_getChar_3b067_38 : decode cJ2_getChar_3b067 38 = .ok (.sipush 255, 3) := by decide +kernel
theorem dJ2_getChar_3b067_41 : decode cJ2_getChar_3b067 41 = .ok (.iand, 1) := by decide +kernel
theorem dJ2_getChar_3b067_42 : decode cJ2_getChar_3b067 42 = .ok (.getstatic 59, 3) := by decide +kernel
theorem dJ2_getChar_3b067_45 : decode cJ2_getChar_3b067 45 = .ok (.ishl, 1) := by decide +kernel
theorem dJ2_getChar_3b067_46 : decode cJ2_getChar_3b067 46 = .ok (.aload_n 0, 1) := by decide +kernel
theorem dJ2_getChar_3b067_47 : decode cJ2_getChar_3b067 47 = .ok (.iload_n 1, 1) := by decide +kernel
theorem dJ2_getChar_3b067_48 : decode cJ2_getChar_3b067 48 = .ok (.baload, 1) := by decide +kernel
theorem dJ2_getChar_3b067_49 : decode cJ2_getChar_3b067 49 = .ok (.sipush 255, 3) := by decide +kernel
theorem dJ2_getChar_3b067_52 : decode cJ2_getChar_3b067 52 = .ok (.iand, 1) := by decide +kernel
theorem dJ2_getChar_3b067_53 : decode cJ2_getChar_3b067 53 = .ok (.getstatic 63, 3) := by decide +kernel
theorem dJ2_getChar_3b067_56 : decode cJ2_getChar_3b067 56 = .ok (.ishl, 1) := by decide +kernel
theorem dJ2_getChar_3b067_57 : decode cJ2_getChar_3b067 57 = .ok (.ior, 1) := by decide +kernel
theorem dJ2_getChar_3b067_58 : decode cJ2_getChar_3b067 58 = .ok (.i2c, 1) := by decide +kernel
theorem dJ2_getChar_3b067_59 : decode cJ2_getChar_3b067 59 = .ok (.ireturn, 1) := by decide +kernel
theorem dJ2_length_9d52b_0 : decode cJ2_length_9d52b 0 = .ok (.aload_n 0, 1) := by decide +kernel
theorem dJ2_length_9d52b_1 : decode cJ2_length_9d52b 1 = .ok (.arraylength, 1) := by decide +kernel
theorem dJ2_length_9d52b_2 : decode cJ2_length_9d52b 2 = .ok (.iconst 1, 1) := by decide +kernel
theorem dJ2_length_9d52b_3 : decode cJ2_length_9d52b 3 = .ok (.ishr, 1) := by decide +kernel
theorem dJ2_length_9d52b_4 : decode cJ2_length_9d52b 4 = .ok (.ireturn, 1) := by decide +kernel
theorem dJ2_charAt_3b067_0 : decode cJ2_charAt_3b067 0 = .ok (.iload_n 1, 1) := by decide +kernel
theorem dJ2_charAt_3b067_1 : decode cJ2_charAt_3b067 1 = .ok (.aload_n 0, 1) := by decide +kernel
theorem dJ2_charAt_3b067_2 : decode cJ2_charAt_3b067 2 = .ok (.invokestatic 67, 3) := by decide +kernel
theorem dJ2_charAt_3b067_5 : decode cJ2_charAt_3b067 5 = .ok (.aload_n 0, 1) := by decide +kernel
theorem dJ2_charAt_3b067_6 : decode cJ2_charAt_3b067 6 = .ok (.iload_n 1, 1) := by decide +kernel
theorem dJ2_charAt_3b067_7 : decode cJ2_charAt_3b067 7 = .ok (.invokestatic 71, 3) := by decide +kernel
theorem dJ2_charAt_3b067_10 : decode cJ2_charAt_3b067 10 = .ok (.ireturn, 1) := by decide +kernel
theorem dJ2_checkIndex_2214a_0 : decode cJ2_checkIndex_2214a 0 = .ok (.iload_n 0, 1) := by decide +kernel
theorem dJ2_checkIndex_2214a_1 : decode cJ2_checkIndex_2214a 1 = .ok (.aload_n 1, 1) := by decide +kernel
theorem dJ2_checkIndex_2214a_2 : decode cJ2_checkIndex_2214a 2 = .ok (.invokestatic 48, 3) := by decide +kernel
theorem dJ2_checkIndex_2214a_5 : decode cJ2_checkIndex_2214a 5 = .ok (.invokestatic 414, 3) := by decide +kernel
theorem dJ2_checkIndex_2214a_8 : decode cJ2_checkIndex_2214a 8 = .ok (.return_, 1) := by decide +kernel
theorem dJ3_checkIndex_8e157_0 : decode cJ3_checkIndex_8e157 0 = .ok (.iload_n 0, 1) := by decide +kernel
theorem dJ3_checkIndex_8e157_1 : decode cJ3_checkIndex_8e157 1 = .ok (.ifCond .lt 8, 3) := by decide +kernel
theorem dJ3_checkIndex_8e157_4 : decode cJ3_checkIndex_8e157 4 = .ok (.iload_n 0, 1) := by decide +kernel
theorem dJ3_checkIndex_8e157_5 : decode cJ3_checkIndex_8e157 5 = .ok (.iload_n 1, 1) := by decide +kernel
theorem dJ3_checkIndex_8e157_6 : decode cJ3_checkIndex_8e157 6 = .ok (.if_icmp .lt 10, 3) := by decide +kernel
theorem dJ3_checkIndex_8e157_9 : decode cJ3_checkIndex_8e157 9 = .ok (.aload_n 2, 1) := by decide +kernel
theorem dJ3_checkIndex_8e157_10 : decode cJ3_checkIndex_8e157 10 = .ok (.iload_n 0, 1) := by decide +kernel
theorem dJ3_checkIndex_8e157_11 : decode cJ3_checkIndex_8e157 11 = .ok (.iload_n 1, 1) := by decide +kernel
theorem dJ3_checkIndex_8e157_12 : decode cJ3_checkIndex_8e157 12 = .ok (.invokestatic 95, 3) := by decide +kernel
theorem dJ3_checkIndex_8e157_15 : decode cJ3_checkIndex_8e157 15 = .ok (.athrow, 1) := by decide +kernel
theorem dJ3_checkIndex_8e157_16 : decode cJ3_checkIndex_8e157 16 = .ok (.iload_n 0, 1) := by decide +kernel
theorem dJ3_checkIndex_8e157_17 : decode cJ3_checkIndex_8e157 17 = .ok (.ireturn, 1) := by decide +kernel
theorem dX0_init_0 : decode cX0_init 0 = .ok (.aload_n 0, 1) := by decide +kernel
theorem dX0_init_1 : decode cX0_init 1 = .ok (.invokespecial 3, 3) := by decide +kernel
theorem dX0_init_4 : decode cX0_init 4 = .ok (.aload_n 0, 1) := by decide +kernel
theorem dX0_init_5 : decode cX0_init 5 = .ok (.bipush 12, 2) := by decide +kernel
theorem dX0_init_7 : decode cX0_init 7 = .ok (.newarray .int, 2) := by decide +kernel
theorem dX0_init_9 : decode cX0_init 9 = .ok (.putfield 9, 3) := by decide +kernel
theorem dX0_init_12 : decode cX0_init 12 = .ok (.aload_n 0, 1) := by decide +kernel
theorem dX0_init_13 : decode cX0_init 13 = .ok (.bipush 12, 2) := by decide +kernel
theorem dX0_init_15 : decode cX0_init 15 = .ok (.newarray .int, 2) := by decide +kernel
theorem dX0_init_17 : decode cX0_init 17 = .ok (.putfield 15, 3) := by decide +kernel
theorem dX0_init_20 : decode cX0_init 20 = .ok (.aload_n 0, 1) := by decide +kernel
theorem dX0_init_21 : decode cX0_init 21 = .ok (.bipush 12, 2) := by decide +kernel
theorem dX0_init_23 : decode cX0_init 23 = .ok (.newarray .int, 2) := by decide +kernel
theorem dX0_init_25 : decode cX0_init 25 = .ok (.putfield 18, 3) := by decide +kernel
theorem dX0_init_28 : decode cX0_init 28 = .ok (.aload_n 0, 1) := by decide +kernel
theorem dX0_init_29 : decode cX0_init 29 = .ok (.bipush 12, 2) := by decide +kernel
theorem dX0_init_31 : decode cX0_init 31 = .ok (.newarray .int, 2) := by decide +kernel
theorem dX0_init_33 : decode cX0_init 33 = .ok (.putfield 21, 3) := by decide +kernel
theorem dX0_init_36 : decode cX0_init 36 = .ok (.return_, 1) := by decide +kernel
theorem dX0_add_0 : decode cX0_add 0 = .ok (.aload_n 0, 1) := by decide +kernel
theorem dX0_add_1 : decode cX0_add 1 = .ok (.getfield 24, 3) := by decide +kernel
theorem dX0_add_4 : decode cX0_add 4 = .ok (.bipush 12, 2) := by decide +kernel
theorem dX0_add_6 : decode cX0_add 6 = .ok (.if_icmp .lt 4, 3) := by decide +kernel
theorem dX0_add_9 : decode cX0_add 9 = .ok (.return_, 1) := by decide +kernel
theorem dX0_add_10 : decode cX0_add 10 = .ok (.aload_n 0, 1) := by decide +kernel
theorem dX0_add_11 : decode cX0_add 11 = .ok (.getfield 9, 3) := by decide +kernel
theorem dX0_add_14 : decode cX0_add 14 = .ok (.aload_n 0, 1) := by decide +kernel
theorem dX0_add_15 : decode cX0_add 15 = .ok (.getfield 24, 3) := by decide +kernel
theorem dX0_add_18 : decode cX0_add 18 = .ok (.iload_n 1, 1) := by decide +kernel
theorem dX0_add_19 : decode cX0_add 19 = .ok (.iastore, 1) := by decide +kernel
theorem dX0_add_20 : decode cX0_add 20 = .ok (.aload_n 0, 1) := by decide +kernel
theorem dX0_add_21 : decode cX0_add 21 = .ok (.getfield 15, 3) := by decide +kernel
theorem dX0_add_24 : decode cX0_add 24 = .ok (.aload_n 0, 1) := by decide +kernel
theorem dX0_add_25 : decode cX0_add 25 = .ok (.getfield 24, 3) := by decide +kernel
theorem dX0_add_28 : decode cX0_add 28 = .ok (.iload_n 2, 1) := by decide +kernel
theorem dX0_add_29 : decode cX0_add 29 = .ok (.iastore, 1) := by decide +kernel
theorem dX0_add_30 : decode cX0_add 30 = .ok (.aload_n 0, 1) := by decide +kernel
theorem dX0_add_31 : decode cX0_add 31 = .ok (.getfield 18, 3) := by decide +kernel
theorem dX0_add_34 : decode cX0_add 34 = .ok (.aload_n 0, 1) := by decide +kernel
theorem dX0_add_35 : decode cX0_add 35 = .ok (.getfield 24, 3) := by decide +kernel
theorem dX0_add_38 : decode cX0_add 38 = .ok (.iload_n 3, 1) := by decide +kernel
theorem dX0_add_39 : decode cX0_add 39 = .ok (.iastore, 1) := by decide +kernel
theorem dX0_add_40 : decode cX0_add 40 = .ok (.aload_n 0, 1) := by decide +kernel
theorem dX0_add_41 : decode cX0_add 41 = .ok (.getfield 21, 3) := by decide +kernel
theorem dX0_add_44 : decode cX0_add 44 = .ok (.aload_n 0, 1) := by decide +kernel
theorem dX0_add_45 : decode cX0_add 45 = .ok (.getfield 24, 3) := by decide +kernel
theorem dX0_add_48 : decode cX0_add 48 = .ok (.iload 4, 2) := by decide +kernel
theorem dX0_add_50 : decode cX0_add 50 = .ok (.iastore, 1) := by decide +kernel
theorem dX0_add_51 : decode cX0_add 51 = .ok (.aload_n 0, 1) := by decide +kernel
theorem dX0_add_52 : decode cX0_add 52 = .ok (.dup, 1) := by decide +kernel
theorem dX0_add_53 : decode cX0_add 53 = .ok (.getfield 24, 3) := by decide +kernel
theorem dX0_add_56 : decode cX0_add 56 = .ok (.iconst 1, 1) := by decide +kernel
theorem dX0_add_57 : decode cX0_add 57 = .ok (.iadd, 1) := by decide +kernel
theorem dX0_add_58 : decode cX0_add 58 = .ok (.putfield 24, 3) := by decide +kernel
theorem dX0_add_61 : decode cX0_add 61 = .ok (.return_, 1) := by decide +kernel
theorem dX0_stops_0 : decode cX0_stops 0 = .ok (.aload_n 0, 1) := by decide +kernel
theorem dX0_stops_1 : decode cX0_stops 1 = .ok (.getfield 15, 3) := by decide +kernel
theorem dX0_stops_4 : decode cX0_stops 4 = .ok (.iload_n 1, 1) := by decide +kernel
theorem dX0_stops_5 : decode cX0_stops 5 = .ok (.iaload, 1) := by decide +kernel
theorem dX0_stops_6 : decode cX0_stops 6 = .ok (.iconst (-1), 1) := by decide +kernel
theorem dX0_stops_7 : decode cX0_stops 7 = .ok (.if_icmp .ne 7, 3) := by decide +kernel
theorem dX0_stops_10 : decode cX0_stops 10 = .ok (.lconst 0, 1) := by decide +kernel
theorem dX0_stops_11 : decode cX0_stops 11 = .ok (.goto 20, 3) := by decide +kernel
theorem dX0_stops_14 : decode cX0_stops 14 = .ok (.aload_n 2, 1) := by decide +kernel
theorem dX0_stops_15 : decode cX0_stops 15 = .ok (.aload_n 0, 1) := by decide +kernel
theorem dX0_stops_16 : decode cX0_stops 16 = .ok (.getfield 15, 3) := by decide +kernel
theorem dX0_stops_19 : decode cX0_stops 19 = .ok (.iload_n 1, 1) := by decide +kernel
theorem dX0_stops_20 : decode cX0_stops 20 = .ok (.iaload, 1) := by decide +kernel
theorem dX0_stops_21 : decode cX0_stops 21 = .ok (.aload_n 0, 1) := by decide +kernel
theorem dX0_stops_22 : decode cX0_stops 22 = .ok (.getfield 18, 3) := by decide +kernel
theorem dX0_stops_25 : decode cX0_stops 25 = .ok (.iload_n 1, 1) := by decide +kernel
theorem dX0_stops_26 : decode cX0_stops 26 = .ok (.iaload, 1) := by decide +kernel
theorem dX0_stops_27 : decode cX0_stops 27 = .ok (.iload_n 3, 1) := by decide +kernel
theorem dX0_stops_28 : decode cX0_stops 28 = .ok (.invokevirtual 28, 3) := by decide +kernel
theorem dX0_stops_31 : decode cX0_stops 31 = .ok (.lreturn, 1) := by decide +kernel
theorem dX2_init_0 : decode cX2_init 0 = .ok (.aload_n 0, 1) := by decide +kernel
theorem dX2_init_1 : decode cX2_init 1 = .ok (.invokespecial 3, 3) := by decide +kernel
theorem dX2_init_4 : decode cX2_init 4 = .ok (.aload_n 0, 1) := by decide +kernel
theorem dX2_init_5 : decode cX2_init 5 = .ok (.sipush 384, 3) := by decide +kernel
theorem dX2_init_8 : decode cX2_init 8 = .ok (.newarray .int, 2) := by decide +kernel
theorem dX2_init_10 : decode cX2_init 10 = .ok (.putfield 9, 3) := by decide +kernel
theorem dX2_init_13 : decode cX2_init 13 = .ok (.aload_n 0, 1) := by decide +kernel
theorem dX2_init_14 : decode cX2_init 14 = .ok (.sipush 384, 3) := by decide +kernel
theorem dX2_init_17 : decode cX2_init 17 = .ok (.newarray .int, 2) := by decide +kernel
theorem dX2_init_19 : decode cX2_init 19 = .ok (.putfield 15, 3) := by decide +kernel
theorem dX2_init_22 : decode cX2_init 22 = .ok (.return_, 1) := by decide +kernel
theorem dX2_set_0 : decode cX2_set 0 = .ok (.aload_n 0, 1) := by decide +kernel
theorem dX2_set_1 : decode cX2_set 1 = .ok (.getfield 9, 3) := by decide +kernel
theorem dX2_set_4 : decode cX2_set 4 = .ok (.iload_n 1, 1) := by decide +kernel
theorem dX2_set_5 : decode cX2_set 5 = .ok (.iload_n 2, 1) := by decide +kernel
theorem dX2_set_6 : decode cX2_set 6 = .ok (.iastore, 1) := by decide +kernel
theorem dX2_set_7 : decode cX2_set 7 = .ok (.aload_n 0, 1) := by decide +kernel
theorem dX2_set_8 : decode cX2_set 8 = .ok (.getfield 15, 3) := by decide +kernel
theorem dX2_set_11 : decode cX2_set 11 = .ok (.iload_n 1, 1) := by decide +kernel
theorem dX2_set_12 : decode cX2_set 12 = .ok (.iload_n 3, 1) := by decide +kernel
theorem dX2_set_13 : decode cX2_set 13 = .ok (.iastore, 1) := by decide +kernel
theorem dX2_set_14 : decode cX2_set 14 = .ok (.return_, 1) := by decide +kernel
theorem dX2_copyOf_0 : decode cX2_copyOf 0 = .ok (.aload_n 1, 1) := by decide +kernel
theorem dX2_copyOf_1 : decode cX2_copyOf 1 = .ok (.getfield 9, 3) := by decide +kernel
theorem dX2_copyOf_4 : decode cX2_copyOf 4 = .ok (.iconst 0, 1) := by decide +kernel
theorem dX2_copyOf_5 : decode cX2_copyOf 5 = .ok (.aload_n 0, 1) := by decide +kernel
theorem dX2_copyOf_6 : decode cX2_copyOf 6 = .ok (.getfield 9, 3) := by decide +kernel
theorem dX2_copyOf_9 : decode cX2_copyOf 9 = .ok (.iconst 0, 1) := by decide +kernel
theorem dX2_copyOf_10 : decode cX2_copyOf 10 = .ok (.aload_n 0, 1) := by decide +kernel
theorem dX2_copyOf_11 : decode cX2_copyOf 11 = .ok (.getfield 9, 3) := by decide +kernel
theorem dX2_copyOf_14 : decode cX2_copyOf 14 = .ok (.arraylength, 1) := by decide +kernel
theorem dX2_copyOf_15 : decode cX2_copyOf 15 = .ok (.invokestatic 18, 3) := by decide +kernel
theorem dX2_copyOf_18 : decode cX2_copyOf 18 = .ok (.aload_n 1, 1) := by decide +kernel
theorem dX2_copyOf_19 : decode cX2_copyOf 19 = .ok (.getfield 15, 3) := by decide +kernel
theorem dX2_copyOf_22 : decode cX2_copyOf 22 = .ok (.iconst 0, 1) := by decide +kernel
theorem dX2_copyOf_23 : decode cX2_copyOf 23 = .ok (.aload_n 0, 1) := by decide +kernel
theorem dX2_copyOf_24 : decode cX2_copyOf 24 = .ok (.getfield 15, 3) := by decide +kernel
theorem dX2_copyOf_27 : decode cX2_copyOf 27 = .ok (.iconst 0, 1) := by decide +kernel
theorem dX2_copyOf_28 : decode cX2_copyOf 28 = .ok (.aload_n 0, 1) := by decide +kernel
theorem dX2_copyOf_29 : decode cX2_copyOf 29 = .ok (.getfield 15, 3) := by decide +kernel
theorem dX2_copyOf_32 : decode cX2_copyOf 32 = .ok (.arraylength, 1) := by decide +kernel
theorem dX2_copyOf_33 : decode cX2_copyOf 33 = .ok (.invokestatic 18, 3) := by decide +kernel
theorem dX2_copyOf_36 : decode cX2_copyOf 36 = .ok (.return_, 1) := by decide +kernel
theorem dX3_init_0 : decode cX3_init 0 = .ok (.aload_n 0, 1) := by decide +kernel
theorem dX3_init_1 : decode cX3_init 1 = .ok (.invokespecial 3, 3) := by decide +kernel
theorem dX3_init_4 : decode cX3_init 4 = .ok (.aload_n 0, 1) := by decide +kernel
theorem dX3_init_5 : decode cX3_init 5 = .ok (.iconst (-1), 1) := by decide +kernel
theorem dX3_init_6 : decode cX3_init 6 = .ok (.putfield 9, 3) := by decide +kernel
theorem dX3_init_9 : decode cX3_init 9 = .ok (.aload_n 0, 1) := by decide +kernel
theorem dX3_init_10 : decode cX3_init 10 = .ok (.sipush 400, 3) := by decide +kernel
theorem dX3_init_13 : decode cX3_init 13 = .ok (.newarray .char, 2) := by decide +kernel
theorem dX3_init_15 : decode cX3_init 15 = .ok (.putfield 15, 3) := by decide +kernel
theorem dX3_init_18 : decode cX3_init 18 = .ok (.return_, 1) := by decide +kernel
theorem dX3_append_0 : decode cX3_append 0 = .ok (.bipush 24, 2) := by decide +kernel
theorem dX3_append_2 : decode cX3_append 2 = .ok (.istore_n 2, 1) := by decide +kernel
theorem dX3_append_3 : decode cX3_append 3 = .ok (.iload_n 2, 1) := by decide +kernel
theorem dX3_append_4 : decode cX3_append 4 = .ok (.ifCond .lt 46, 3) := by decide +kernel
theorem dX3_append_7 : decode cX3_append 7 = .ok (.aload_n 0, 1) := by decide +kernel
theorem dX3_append_8 : decode cX3_append 8 = .ok (.getfield 19, 3) := by decide +kernel
theorem dX3_append_11 : decode cX3_append 11 = .ok (.sipush 400, 3) := by decide +kernel
theorem dX3_append_14 : decode cX3_append 14 = .ok (.if_icmp .ge 36, 3) := by decide +kernel
theorem dX3_append_17 : decode cX3_append 17 = .ok (.aload_n 0, 1) := by decide +kernel
theorem dX3_append_18 : decode cX3_append 18 = .ok (.getfield 15, 3) := by decide +kernel
theorem dX3_append_21 : decode cX3_append 21 = .ok (.aload_n 0, 1) := by decide +kernel
theorem dX3_append_22 : decode cX3_append 22 = .ok (.getfield 19, 3) := by decide +kernel
theorem dX3_append_25 : decode cX3_append 25 = .ok (.iload_n 1, 1) := by decide +kernel
theorem dX3_append_26 : decode cX3_append 26 = .ok (.iload_n 2, 1) := by decide +kernel
theorem dX3_append_27 : decode cX3_append 27 = .ok (.iushr, 1) := by decide +kernel
theorem dX3_append_28 : decode cX3_append 28 = .ok (.sipush 255, 3) := by decide +kernel
theorem dX3_append_31 : decode cX3_append 31 = .ok (.iand, 1) := by decide +kernel
theorem dX3_append_32 : decode cX3_append 32 = .ok (.i2c, 1) := by decide +kernel
theorem dX3_append_33 : decode cX3_append 33 = .ok (.castore, 1) := by decide +kernel
theorem dX3_append_34 : decode cX3_append 34 = .ok (.aload_n 0, 1) := by decide +kernel
theorem dX3_append_35 : decode cX3_append 35 = .ok (.dup, 1) := by decide +kernel
theorem dX3_append_36 : decode cX3_append 36 = .ok (.getfield 19, 3) := by decide +kernel
theorem dX3_append_39 : decode cX3_append 39 = .ok (.iconst 1, 1) := by decide +kernel
theorem dX3_append_40 : decode cX3_append 40 = .ok (.iadd, 1) := by decide +kernel
theorem dX3_append_41 : decode cX3_append 41 = .ok (.putfield 19, 3) := by decide +kernel
theorem dX3_append_44 : decode cX3_append 44 = .ok (.iinc 2 (-8), 3) := by decide +kernel
theorem dX3_append_47 : decode cX3_append 47 = .ok (.goto (-44), 3) := by decide +kernel
theorem dX3_append_50 : decode cX3_append 50 = .ok (.return_, 1) := by decide +kernel
theorem dX3_readInto_0 : decode cX3_readInto 0 = .ok (.aload_n 1, 1) := by decide +kernel
theorem dX3_readInto_1 : decode cX3_readInto 1 = .ok (.iconst 0, 1) := by decide +kernel
theorem dX3_readInto_2 : decode cX3_readInto 2 = .ok (.putfield 22, 3) := by decide +kernel
theorem dX3_readInto_5 : decode cX3_readInto 5 = .ok (.aload_n 0, 1) := by decide +kernel
theorem dX3_readInto_6 : decode cX3_readInto 6 = .ok (.iconst 0, 1) := by decide +kernel
theorem dX3_readInto_7 : decode cX3_readInto 7 = .ok (.putfield 27, 3) := by decide +kernel
theorem dX3_readInto_10 : decode cX3_readInto 10 = .ok (.aload_n 0, 1) := by decide +kernel
theorem dX3_readInto_11 : decode cX3_readInto 11 = .ok (.iconst (-1), 1) := by decide +kernel
theorem dX3_readInto_12 : decode cX3_readInto 12 = .ok (.putfield 9, 3) := by decide +kernel
theorem dX3_readInto_15 : decode cX3_readInto 15 = .ok (.aload_n 0, 1) := by decide +kernel
theorem dX3_readInto_16 : decode cX3_readInto 16 = .ok (.iconst 0, 1) := by decide +kernel
theorem dX3_readInto_17 : decode cX3_readInto 17 = .ok (.putfield 30, 3) := by decide +kernel
theorem dX3_readInto_20 : decode cX3_readInto 20 = .ok (.aload_n 0, 1) := by decide +kernel
theorem dX3_readInto_21 : decode cX3_readInto 21 = .ok (.invokevirtual 33, 3) := by decide +kernel
theorem dX3_readInto_24 : decode cX3_readInto 24 = .ok (.iconst 0, 1) := by decide +kernel
theorem dX3_readInto_25 : decode cX3_readInto 25 = .ok (.istore_n 2, 1) := by decide +kernel
theorem dX3_readInto_26 : decode cX3_readInto 26 = .ok (.iload_n 2, 1) := by decide +kernel
theorem dX3_readInto_27 : decode cX3_readInto 27 = .ok (.bipush 12, 2) := by decide +kernel
theorem dX3_readInto_29 : decode cX3_readInto 29 = .ok (.if_icmp .gt 28, 3) := by decide +kernel
theorem dX3_readInto_32 : decode cX3_readInto 32 = .ok (.aload_n 0, 1) := by decide +kernel
theorem dX3_readInto_33 : decode cX3_readInto 33 = .ok (.getfield 27, 3) := by decide +kernel
theorem dX3_readInto_36 : decode cX3_readInto 36 = .ok (.ifCond .ne 21, 3) := by decide +kernel
theorem dX3_readInto_39 : decode cX3_readInto 39 = .ok (.aload_n 0, 1) := by decide +kernel
theorem dX3_readInto_40 : decode cX3_readInto 40 = .ok (.getfield 36, 3) := by decide +kernel
theorem dX3_readInto_43 : decode cX3_readInto 43 = .ok (.ifCond .eq 14, 3) := by decide +kernel
theorem dX3_readInto_46 : decode cX3_readInto 46 = .ok (.aload_n 0, 1) := by decide +kernel
theorem dX3_readInto_47 : decode cX3_readInto 47 = .ok (.aload_n 1, 1) := by decide +kernel
theorem dX3_readInto_48 : decode cX3_readInto 48 = .ok (.invokevirtual 39, 3) := by decide +kernel
theorem dX3_readInto_51 : decode cX3_readInto 51 = .ok (.iinc 2 1, 3) := by decide +kernel
theorem dX3_readInto_54 : decode cX3_readInto 54 = .ok (.goto (-28), 3) := by decide +kernel
theorem dX3_readInto_57 : decode cX3_readInto 57 = .ok (.aload_n 0, 1) := by decide +kernel
theorem dX3_readInto_58 : decode cX3_readInto 58 = .ok (.getfield 27, 3) := by decide +kernel
theorem dX3_readInto_61 : decode cX3_readInto 61 = .ok (.ifCond .ne 7, 3) := by decide +kernel
theorem dX3_readInto_64 : decode cX3_readInto 64 = .ok (.iconst 1, 1) := by decide +kernel
theorem dX3_readInto_65 : decode cX3_readInto 65 = .ok (.goto 4, 3) := by decide +kernel
theorem dX3_readInto_68 : decode cX3_readInto 68 = .ok (.iconst 0, 1) := by decide +kernel
theorem dX3_readInto_69 : decode cX3_readInto 69 = .ok (.ireturn, 1) := by decide +kernel
theorem dX3_readLine_0 : decode cX3_readLine 0 = .ok (.aload_n 0, 1) := by decide +kernel
theorem dX3_readLine_1 : decode cX3_readLine 1 = .ok (.getfield 36, 3) := by decide +kernel
theorem dX3_readLine_4 : decode cX3_readLine 4 = .ok (.iconst 4, 1) := by decide +kernel
theorem dX3_readLine_5 : decode cX3_readLine 5 = .ok (.if_icmp .ne 17, 3) := by decide +kernel
theorem dX3_readLine_8 : decode cX3_readLine 8 = .ok (.aload_n 1, 1) := by decide +kernel
theorem dX3_readLine_9 : decode cX3_readLine 9 = .ok (.getfield 22, 3) := by decide +kernel
theorem dX3_readLine_12 : decode cX3_readLine 12 = .ok (.bipush 12, 2) := by decide +kernel
theorem dX3_readLine_14 : decode cX3_readLine 14 = .ok (.if_icmp .lt 8, 3) := by decide +kernel
theorem dX3_readLine_17 : decode cX3_readLine 17 = .ok (.aload_n 0, 1) := by decide +kernel
theorem dX3_readLine_18 : decode cX3_readLine 18 = .ok (.iconst 3, 1) := by decide +kernel
theorem dX3_readLine_19 : decode cX3_readLine 19 = .ok (.invokevirtual 43, 3) := by decide +kernel
theorem dX3_readLine_22 : decode cX3_readLine 22 = .ok (.aload_n 0, 1) := by decide +kernel
theorem dX3_readLine_23 : decode cX3_readLine 23 = .ok (.aload_n 0, 1) := by decide +kernel
theorem dX3_readLine_24 : decode cX3_readLine 24 = .ok (.getfield 36, 3) := by decide +kernel
theorem dX3_readLine_27 : decode cX3_readLine 27 = .ok (.iconst 4, 1) := by decide +kernel
theorem dX3_readLine_28 : decode cX3_readLine 28 = .ok (.if_icmp .ne 7, 3) := by decide +kernel
theorem dX3_readLine_31 : decode cX3_readLine 31 = .ok (.iconst 1, 1) := by decide +kernel
theorem dX3_readLine_32 : decode cX3_readLine 32 = .ok (.goto 4, 3) := by decide +kernel
theorem dX3_readLine_35 : decode cX3_readLine 35 = .ok (.iconst 0, 1) := by decide +kernel
theorem dX3_readLine_36 : decode cX3_readLine 36 = .ok (.invokevirtual 47, 3) := by decide +kernel
theorem dX3_readLine_39 : decode cX3_readLine 39 = .ok (.aload_n 0, 1) := by decide +kernel
theorem dX3_readLine_40 : decode cX3_readLine 40 = .ok (.iconst 0, 1) := by decide +kernel
theorem dX3_readLine_41 : decode cX3_readLine 41 = .ok (.bipush 8, 2) := by decide +kernel
theorem dX3_readLine_43 : decode cX3_readLine 43 = .ok (.invokevirtual 51, 3) := by decide +kernel
theorem dX3_readLine_46 : decode cX3_readLine 46 = .ok (.istore_n 2, 1) := by decide +kernel
theorem dX3_readLine_47 : decode cX3_readLine 47 = .ok (.aload_n 0, 1) := by decide +kernel
theorem dX3_readLine_48 : decode cX3_readLine 48 = .ok (.aload_n 0, 1) := by decide +kernel
theorem dX3_readLine_49 : decode cX3_readLine 49 = .ok (.getfield 36, 3) := by decide +kernel
theorem dX3_readLine_52 : decode cX3_readLine 52 = .ok (.iconst 2, 1) := by decide +kernel
theorem dX3_readLine_53 : decode cX3_readLine 53 = .ok (.if_icmp .ne 7, 3) := by decide +kernel
theorem dX3_readLine_56 : decode cX3_readLine 56 = .ok (.iconst 1, 1) := by decide +kernel
theorem dX3_readLine_57 : decode cX3_readLine 57 = .ok (.goto 4, 3) := by decide +kernel
theorem dX3_readLine_60 : decode cX3_readLine 60 = .ok (.iconst 0, 1) := by decide +kernel
theorem dX3_readLine_61 : decode cX3_readLine 61 = .ok (.invokevirtual 47, 3) := by decide +kernel
theorem dX3_readLine_64 : decode cX3_readLine 64 = .ok (.iconst (-1), 1) := by decide +kernel
theorem dX3_readLine_65 : decode cX3_readLine 65 = .ok (.istore_n 3, 1) := by decide +kernel
theorem dX3_readLine_66 : decode cX3_readLine 66 = .ok (.iconst 1, 1) := by decide +kernel
theorem dX3_readLine_67 : decode cX3_readLine 67 = .ok (.istore 4, 2) := by decide +kernel
theorem dX3_readLine_69 : decode cX3_readLine 69 = .ok (.aload_n 0, 1) := by decide +kernel
theorem dX3_readLine_70 : decode cX3_readLine 70 = .ok (.getfield 36, 3) := by decide +kernel
theorem dX3_readLine_73 : decode cX3_readLine 73 = .ok (.iconst 5, 1) := by decide +kernel
theorem dX3_readLine_74 : decode cX3_readLine 74 = .ok (.if_icmp .ne 61, 3) := by decide +kernel
theorem dX3_readLine_77 : decode cX3_readLine 77 = .ok (.aload_n 0, 1) := by decide +kernel
theorem dX3_readLine_78 : decode cX3_readLine 78 = .ok (.iconst 1, 1) := by decide +kernel
theorem dX3_readLine_79 : decode cX3_readLine 79 = .ok (.invokevirtual 47, 3) := by decide +kernel
theorem dX3_readLine_82 : decode cX3_readLine 82 = .ok (.aload_n 0, 1) := by decide +kernel
theorem dX3_readLine_83 : decode cX3_readLine 83 = .ok (.invokevirtual 55, 3) := by decide +kernel
theorem dX3_readLine_86 : decode cX3_readLine 86 = .ok (.istore_n 3, 1) := by decide +kernel
theorem dX3_readLine_87 : decode cX3_readLine 87 = .ok (.aload_n 0, 1) := by decide +kernel
theorem dX3_readLine_88 : decode cX3_readLine 88 = .ok (.iload_n 3, 1) := by decide +kernel
theorem dX3_readLine_89 : decode cX3_readLine 89 = .ok (.iconst (-1), 1) := by decide +kernel
theorem dX3_readLine_90 : decode cX3_readLine 90 = .ok (.if_icmp .eq 7, 3) := by decide +kernel
theorem dX3_readLine_93 : decode cX3_readLine 93 = .ok (.iconst 1, 1) := by decide +kernel
theorem dX3_readLine_94 : decode cX3_readLine 94 = .ok (.goto 4, 3) := by decide +kernel
theorem dX3_readLine_97 : decode cX3_readLine 97 = .ok (.iconst 0, 1) := by decide +kernel
theorem dX3_readLine_98 : decode cX3_readLine 98 = .ok (.invokevirtual 47, 3) := by decide +kernel
theorem dX3_readLine_101 : decode cX3_readLine 101 = .ok (.iload_n 3, 1) := by decide +kernel
theorem dX3_readLine_102 : decode cX3_readLine 102 = .ok (.ifCond .eq 8, 3) := by decide +kernel
theorem dX3_readLine_105 : decode cX3_readLine 105 = .ok (.iload_n 3, 1) := by decide +kernel
theorem dX3_readLine_106 : decode cX3_readLine 106 = .ok (.iconst 1, 1) := by decide +kernel
theorem dX3_readLine_107 : decode cX3_readLine 107 = .ok (.if_icmp .ne 28, 3) := by decide +kernel
theorem dX3_readLine_110 : decode cX3_readLine 110 = .ok (.aload_n 0, 1) := by decide +kernel
theorem dX3_readLine_111 : decode cX3_readLine 111 = .ok (.iconst 0, 1) := by decide +kernel
theorem dX3_readLine_112 : decode cX3_readLine 112 = .ok (.iconst 3, 1) := by decide +kernel
theorem dX3_readLine_113 : decode cX3_readLine 113 = .ok (.invokevirtual 51, 3) := by decide +kernel
theorem dX3_readLine_116 : decode cX3_readLine 116 = .ok (.istore 4, 2) := by decide +kernel
theorem dX3_readLine_118 : decode cX3_readLine 118 = .ok (.aload_n 0, 1) := by decide +kernel
theorem dX3_readLine_119 : decode cX3_readLine 119 = .ok (.aload_n 0, 1) := by decide +kernel
theorem dX3_readLine_120 : decode cX3_readLine 120 = .ok (.getfield 36, 3) := by decide +kernel
theorem dX3_readLine_123 : decode cX3_readLine 123 = .ok (.iconst 2, 1) := by decide +kernel
theorem dX3_readLine_124 : decode cX3_readLine 124 = .ok (.if_icmp .ne 7, 3) := by decide +kernel
theorem dX3_readLine_127 : decode cX3_readLine 127 = .ok (.iconst 1, 1) := by decide +kernel
theorem dX3_readLine_128 : decode cX3_readLine 128 = .ok (.goto 4, 3) := by decide +kernel
theorem dX3_readLine_131 : decode cX3_readLine 131 = .ok (.iconst 0, 1) := by decide +kernel
theorem dX3_readLine_132 : decode cX3_readLine 132 = .ok (.invokevirtual 47, 3) := by decide +kernel
theorem dX3_readLine_135 : decode cX3_readLine 135 = .ok (.aload_n 0, 1) := by decide +kernel
theorem dX3_readLine_136 : decode cX3_readLine 136 = .ok (.aload_n 0, 1) := by decide +kernel
theorem dX3_readLine_137 : decode cX3_readLine 137 = .ok (.getfield 36, 3) := by decide +kernel
theorem dX3_readLine_140 : decode cX3_readLine 140 = .ok (.bipush 6, 2) := by decide +kernel
theorem dX3_readLine_142 : decode cX3_readLine 142 = .ok (.if_icmp .ne 7, 3) := by decide +kernel
theorem dX3_readLine_145 : decode cX3_readLine 145 = .ok (.iconst 1, 1) := by decide +kernel
theorem dX3_readLine_146 : decode cX3_readLine 146 = .ok (.goto 4, 3) := by decide +kernel
theorem dX3_readLine_149 : decode cX3_readLine 149 = .ok (.iconst 0, 1) := by decide +kernel
theorem dX3_readLine_150 : decode cX3_readLine 150 = .ok (.invokevirtual 47, 3) := by decide +kernel
theorem dX3_readLine_153 : decode cX3_readLine 153 = .ok (.aload_n 0, 1) := by decide +kernel
theorem dX3_readLine_154 : decode cX3_readLine 154 = .ok (.iconst 1, 1) := by decide +kernel
theorem dX3_readLine_155 : decode cX3_readLine 155 = .ok (.bipush 20, 2) := by decide +kernel
theorem dX3_readLine_157 : decode cX3_readLine 157 = .ok (.invokevirtual 51, 3) := by decide +kernel
theorem dX3_readLine_160 : decode cX3_readLine 160 = .ok (.istore 5, 2) := by decide +kernel
theorem dX3_readLine_162 : decode cX3_readLine 162 = .ok (.aload_n 0, 1) := by decide +kernel
theorem dX3_readLine_163 : decode cX3_readLine 163 = .ok (.aload_n 0, 1) := by decide +kernel
theorem dX3_readLine_164 : decode cX3_readLine 164 = .ok (.getfield 36, 3) := by decide +kernel
theorem dX3_readLine_167 : decode cX3_readLine 167 = .ok (.iconst 2, 1) := by decide +kernel
theorem dX3_readLine_168 : decode cX3_readLine 168 = .ok (.if_icmp .ne 7, 3) := by decide +kernel
theorem dX3_readLine_171 : decode cX3_readLine 171 = .ok (.iconst 1, 1) := by decide +kernel
theorem dX3_readLine_172 : decode cX3_readLine 172 = .ok (.goto 4, 3) := by decide +kernel
theorem dX3_readLine_175 : decode cX3_readLine 175 = .ok (.iconst 0, 1) := by decide +kernel
theorem dX3_readLine_176 : decode cX3_readLine 176 = .ok (.invokevirtual 47, 3) := by decide +kernel
theorem dX3_readLine_179 : decode cX3_readLine 179 = .ok (.aload_n 0, 1) := by decide +kernel
theorem dX3_readLine_180 : decode cX3_readLine 180 = .ok (.aload_n 0, 1) := by decide +kernel
theorem dX3_readLine_181 : decode cX3_readLine 181 = .ok (.getfield 36, 3) := by decide +kernel
theorem dX3_readLine_184 : decode cX3_readLine 184 = .ok (.iconst 3, 1) := by decide +kernel
theorem dX3_readLine_185 : decode cX3_readLine 185 = .ok (.if_icmp .ne 7, 3) := by decide +kernel
theorem dX3_readLine_188 : decode cX3_readLine 188 = .ok (.iconst 1, 1) := by decide +kernel
theorem dX3_readLine_189 : decode cX3_readLine 189 = .ok (.goto 4, 3) := by decide +kernel
theorem dX3_readLine_192 : decode cX3_readLine 192 = .ok (.iconst 0, 1) := by decide +kernel
theorem dX3_readLine_193 : decode cX3_readLine 193 = .ok (.invokevirtual 47, 3) := by decide +kernel
theorem dX3_readLine_196 : decode cX3_readLine 196 = .ok (.aload_n 0, 1) := by decide +kernel
theorem dX3_readLine_197 : decode cX3_readLine 197 = .ok (.getfield 27, 3) := by decide +kernel
theorem dX3_readLine_200 : decode cX3_readLine 200 = .ok (.ifCond .ne 13, 3) := by decide +kernel
theorem dX3_readLine_203 : decode cX3_readLine 203 = .ok (.aload_n 1, 1) := by decide +kernel
theorem dX3_readLine_204 : decode cX3_readLine 204 = .ok (.iload_n 2, 1) := by decide +kernel
theorem dX3_readLine_205 : decode cX3_readLine 205 = .ok (.iload_n 3, 1) := by decide +kernel
theorem dX3_readLine_206 : decode cX3_readLine 206 = .ok (.iload 4, 2) := by decide +kernel
theorem dX3_readLine_208 : decode cX3_readLine 208 = .ok (.iload 5, 2) := by decide +kernel
theorem dX3_readLine_210 : decode cX3_readLine 210 = .ok (.invokevirtual 59, 3) := by decide +kernel
theorem dX3_readLine_213 : decode cX3_readLine 213 = .ok (.return_, 1) := by decide +kernel
theorem dX3_signNamed_0 : decode cX3_signNamed 0 = .ok (.aload_n 0, 1) := by decide +kernel
theorem dX3_signNamed_1 : decode cX3_signNamed 1 = .ok (.getfield 36, 3) := by decide +kernel
theorem dX3_signNamed_4 : decode cX3_signNamed 4 = .ok (.tableswitch 34 7 9 #[32, 28, 30], 28) := by decide +kernel
theorem dX3_signNamed_32 : decode cX3_signNamed 32 = .ok (.iconst 0, 1) := by decide +kernel
theorem dX3_signNamed_33 : decode cX3_signNamed 33 = .ok (.ireturn, 1) := by decide +kernel
theorem dX3_signNamed_34 : decode cX3_signNamed 34 = .ok (.iconst 1, 1) := by decide +kernel
theorem dX3_signNamed_35 : decode cX3_signNamed 35 = .ok (.ireturn, 1) := by decide +kernel
theorem dX3_signNamed_36 : decode cX3_signNamed 36 = .ok (.iconst 2, 1) := by decide +kernel
theorem dX3_signNamed_37 : decode cX3_signNamed 37 = .ok (.ireturn, 1) := by decide +kernel
theorem dX3_signNamed_38 : decode cX3_signNamed 38 = .ok (.iconst (-1), 1) := by decide +kernel
theorem dX3_signNamed_39 : decode cX3_signNamed 39 = .ok (.ireturn, 1) := by decide +kernel
theorem dX3_numberWithin_0 : decode cX3_numberWithin 0 = .ok (.aload_n 0, 1) := by decide +kernel
theorem dX3_numberWithin_1 : decode cX3_numberWithin 1 = .ok (.getfield 36, 3) := by decide +kernel
theorem dX3_numberWithin_4 : decode cX3_numberWithin 4 = .ok (.iconst 2, 1) := by decide +kernel
theorem dX3_numberWithin_5 : decode cX3_numberWithin 5 = .ok (.if_icmp .ne 24, 3) := by decide +kernel
theorem dX3_numberWithin_8 : decode cX3_numberWithin 8 = .ok (.aload_n 0, 1) := by decide +kernel
theorem dX3_numberWithin_9 : decode cX3_numberWithin 9 = .ok (.getfield 63, 3) := by decide +kernel
theorem dX3_numberWithin_12 : decode cX3_numberWithin 12 = .ok (.iload_n 1, 1) := by decide +kernel
theorem dX3_numberWithin_13 : decode cX3_numberWithin 13 = .ok (.if_icmp .lt 11, 3) := by decide +kernel
theorem dX3_numberWithin_16 : decode cX3_numberWithin 16 = .ok (.aload_n 0, 1) := by decide +kernel
theorem dX3_numberWithin_17 : decode cX3_numberWithin 17 = .ok (.getfield 63, 3) := by decide +kernel
theorem dX3_numberWithin_20 : decode cX3_numberWithin 20 = .ok (.iload_n 2, 1) := by decide +kernel
theorem dX3_numberWithin_21 : decode cX3_numberWithin 21 = .ok (.if_icmp .le 8, 3) := by decide +kernel
theorem dX3_numberWithin_24 : decode cX3_numberWithin 24 = .ok (.aload_n 0, 1) := by decide +kernel
theorem dX3_numberWithin_25 : decode cX3_numberWithin 25 = .ok (.iconst 2, 1) := by decide +kernel
theorem dX3_numberWithin_26 : decode cX3_numberWithin 26 = .ok (.invokevirtual 43, 3) := by decide +kernel
theorem dX3_numberWithin_29 : decode cX3_numberWithin 29 = .ok (.aload_n 0, 1) := by decide +kernel
theorem dX3_numberWithin_30 : decode cX3_numberWithin 30 = .ok (.getfield 63, 3) := by decide +kernel
theorem dX3_numberWithin_33 : decode cX3_numberWithin 33 = .ok (.ireturn, 1) := by decide +kernel
theorem dX3_take_0 : decode cX3_take 0 = .ok (.iload_n 1, 1) := by decide +kernel
theorem dX3_take_1 : decode cX3_take 1 = .ok (.ifCond .ne 8, 3) := by decide +kernel
theorem dX3_take_4 : decode cX3_take 4 = .ok (.aload_n 0, 1) := by decide +kernel
theorem dX3_take_5 : decode cX3_take 5 = .ok (.iconst 1, 1) := by decide +kernel
theorem dX3_take_6 : decode cX3_take 6 = .ok (.invokevirtual 43, 3) := by decide +kernel
theorem dX3_take_9 : decode cX3_take 9 = .ok (.aload_n 0, 1) := by decide +kernel
theorem dX3_take_10 : decode cX3_take 10 = .ok (.getfield 27, 3) := by decide +kernel
theorem dX3_take_13 : decode cX3_take 13 = .ok (.ifCond .ne 7, 3) := by decide +kernel
theorem dX3_take_16 : decode cX3_take 16 = .ok (.aload_n 0, 1) := by decide +kernel
theorem dX3_take_17 : decode cX3_take 17 = .ok (.invokevirtual 33, 3) := by decide +kernel
theorem dX3_take_20 : decode cX3_take 20 = .ok (.return_, 1) := by decide +kernel
theorem dX3_blame_0 : decode cX3_blame 0 = .ok (.aload_n 0, 1) := by decide +kernel
theorem dX3_blame_1 : decode cX3_blame 1 = .ok (.getfield 27, 3) := by decide +kernel
theorem dX3_blame_4 : decode cX3_blame 4 = .ok (.ifCond .ne 16, 3) := by decide +kernel
theorem dX3_blame_7 : decode cX3_blame 7 = .ok (.aload_n 0, 1) := by decide +kernel
theorem dX3_blame_8 : decode cX3_blame 8 = .ok (.iload_n 1, 1) := by decide +kernel
theorem dX3_blame_9 : decode cX3_blame 9 = .ok (.putfield 27, 3) := by decide +kernel
theorem dX3_blame_12 : decode cX3_blame 12 = .ok (.aload_n 0, 1) := by decide +kernel
theorem dX3_blame_13 : decode cX3_blame 13 = .ok (.aload_n 0, 1) := by decide +kernel
theorem dX3_blame_14 : decode cX3_blame 14 = .ok (.getfield 66, 3) := by decide +kernel
theorem dX3_blame_17 : decode cX3_blame 17 = .ok (.putfield 9, 3) := by decide +kernel
theorem dX3_blame_20 : decode cX3_blame 20 = .ok (.return_, 1) := by decide +kernel
theorem dX3_readToken_0 : decode cX3_readToken 0 = .ok (.aload_n 0, 1) := by decide +kernel
theorem dX3_readToken_1 : decode cX3_readToken 1 = .ok (.getfield 30, 3) := by decide +kernel
theorem dX3_readToken_4 : decode cX3_readToken 4 = .ok (.aload_n 0, 1) := by decide +kernel
theorem dX3_readToken_5 : decode cX3_readToken 5 = .ok (.getfield 19, 3) := by decide +kernel
theorem dX3_readToken_8 : decode cX3_readToken 8 = .ok (.if_icmp .ge 31, 3) := by decide +kernel
theorem dX3_readToken_11 : decode cX3_readToken 11 = .ok (.aload_n 0, 1) := by decide +kernel
theorem dX3_readToken_12 : decode cX3_readToken 12 = .ok (.getfield 15, 3) := by decide +kernel
theorem dX3_readToken_15 : decode cX3_readToken 15 = .ok (.aload_n 0, 1) := by decide +kernel
theorem dX3_readToken_16 : decode cX3_readToken 16 = .ok (.getfield 30, 3) := by decide +kernel
theorem dX3_readToken_19 : decode cX3_readToken 19 = .ok (.caload, 1) := by decide +kernel
theorem dX3_readToken_20 : decode cX3_readToken 20 = .ok (.invokestatic 69, 3) := by decide +kernel
theorem dX3_readToken_23 : decode cX3_readToken 23 = .ok (.ifCond .eq 16, 3) := by decide +kernel
theorem dX3_readToken_26 : decode cX3_readToken 26 = .ok (.aload_n 0, 1) := by decide +kernel
theorem dX3_readToken_27 : decode cX3_readToken 27 = .ok (.dup, 1) := by decide +kernel
theorem dX3_readToken_28 : decode cX3_readToken 28 = .ok (.getfield 30, 3) := by decide +kernel
theorem dX3_readToken_31 : decode cX3_readToken 31 = .ok (.iconst 1, 1) := by decide +kernel
theorem dX3_readToken_32 : decode cX3_readToken 32 = .ok (.iadd, 1) := by decide +kernel
theorem dX3_readToken_33 : decode cX3_readToken 33 = .ok (.putfield 30, 3) := by decide +kernel
theorem dX3_readToken_36 : decode cX3_readToken 36 = .ok (.goto (-36), 3) := by decide +kernel
theorem dX3_readToken_39 : decode cX3_readToken 39 = .ok (.aload_n 0, 1) := by decide +kernel
theorem dX3_readToken_40 : decode cX3_readToken 40 = .ok (.aload_n 0, 1) := by decide +kernel
theorem dX3_readToken_41 : decode cX3_readToken 41 = .ok (.getfield 30, 3) := by decide +kernel
theorem dX3_readToken_44 : decode cX3_readToken 44 = .ok (.putfield 66, 3) := by decide +kernel
theorem dX3_readToken_47 : decode cX3_readToken 47 = .ok (.aload_n 0, 1) := by decide +kernel
theorem dX3_readToken_48 : decode cX3_readToken 48 = .ok (.iconst 0, 1) := by decide +kernel
theorem dX3_readToken_49 : decode cX3_readToken 49 = .ok (.putfield 63, 3) := by decide +kernel
theorem dX3_readToken_52 : decode cX3_readToken 52 = .ok (.aload_n 0, 1) := by decide +kernel
theorem dX3_readToken_53 : decode cX3_readToken 53 = .ok (.getfield 30, 3) := by decide +kernel
theorem dX3_readToken_56 : decode cX3_readToken 56 = .ok (.aload_n 0, 1) := by decide +kernel
theorem dX3_readToken_57 : decode cX3_readToken 57 = .ok (.getfield 19, 3) := by decide +kernel
theorem dX3_readToken_60 : decode cX3_readToken 60 = .ok (.if_icmp .lt 11, 3) := by decide +kernel
theorem dX3_readToken_63 : decode cX3_readToken 63 = .ok (.aload_n 0, 1) := by decide +kernel
theorem dX3_readToken_64 : decode cX3_readToken 64 = .ok (.iconst 0, 1) := by decide +kernel
theorem dX3_readToken_65 : decode cX3_readToken 65 = .ok (.putfield 36, 3) := by decide +kernel
theorem dX3_readToken_68 : decode cX3_readToken 68 = .ok (.goto 88, 3) := by decide +kernel
theorem dX3_readToken_71 : decode cX3_readToken 71 = .ok (.aload_n 0, 1) := by decide +kernel
theorem dX3_readToken_72 : decode cX3_readToken 72 = .ok (.getfield 15, 3) := by decide +kernel
theorem dX3_readToken_75 : decode cX3_readToken 75 = .ok (.aload_n 0, 1) := by decide +kernel
theorem dX3_readToken_76 : decode cX3_readToken 76 = .ok (.getfield 30, 3) := by decide +kernel
theorem dX3_readToken_79 : decode cX3_readToken 79 = .ok (.caload, 1) := by decide +kernel
theorem dX3_readToken_80 : decode cX3_readToken 80 = .ok (.invokestatic 73, 3) := by decide +kernel
theorem dX3_readToken_83 : decode cX3_readToken 83 = .ok (.ifCond .eq 18, 3) := by decide +kernel
theorem dX3_readToken_86 : decode cX3_readToken 86 = .ok (.aload_n 0, 1) := by decide +kernel
theorem dX3_readToken_87 : decode cX3_readToken 87 = .ok (.invokevirtual 76, 3) := by decide +kernel
theorem dX3_readToken_90 : decode cX3_readToken 90 = .ok (.aload_n 0, 1) := by decide +kernel
theorem dX3_readToken_91 : decode cX3_readToken 91 = .ok (.aload_n 0, 1) := by decide +kernel
theorem dX3_readToken_92 : decode cX3_readToken 92 = .ok (.invokevirtual 79, 3) := by decide +kernel
theorem dX3_readToken_95 : decode cX3_readToken 95 = .ok (.putfield 36, 3) := by decide +kernel
theorem dX3_readToken_98 : decode cX3_readToken 98 = .ok (.goto 58, 3) := by decide +kernel
theorem dX3_readToken_101 : decode cX3_readToken 101 = .ok (.aload_n 0, 1) := by decide +kernel
theorem dX3_readToken_102 : decode cX3_readToken 102 = .ok (.getfield 15, 3) := by decide +kernel
theorem dX3_readToken_105 : decode cX3_readToken 105 = .ok (.aload_n 0, 1) := by decide +kernel
theorem dX3_readToken_106 : decode cX3_readToken 106 = .ok (.getfield 30, 3) := by decide +kernel
theorem dX3_readToken_109 : decode cX3_readToken 109 = .ok (.caload, 1) := by decide +kernel
theorem dX3_readToken_110 : decode cX3_readToken 110 = .ok (.invokestatic 82, 3) := by decide +kernel
theorem dX3_readToken_113 : decode cX3_readToken 113 = .ok (.ifCond .eq 10, 3) := by decide +kernel
theorem dX3_readToken_116 : decode cX3_readToken 116 = .ok (.aload_n 0, 1) := by decide +kernel
theorem dX3_readToken_117 : decode cX3_readToken 117 = .ok (.invokevirtual 85, 3) := by decide +kernel
theorem dX3_readToken_120 : decode cX3_readToken 120 = .ok (.goto 36, 3) := by decide +kernel
theorem dX3_readToken_123 : decode cX3_readToken 123 = .ok (.aload_n 0, 1) := by decide +kernel
theorem dX3_readToken_124 : decode cX3_readToken 124 = .ok (.aload_n 0, 1) := by decide +kernel
theorem dX3_readToken_125 : decode cX3_readToken 125 = .ok (.getfield 15, 3) := by decide +kernel
theorem dX3_readToken_128 : decode cX3_readToken 128 = .ok (.aload_n 0, 1) := by decide +kernel
theorem dX3_readToken_129 : decode cX3_readToken 129 = .ok (.getfield 30, 3) := by decide +kernel
theorem dX3_readToken_132 : decode cX3_readToken 132 = .ok (.caload, 1) := by decide +kernel
theorem dX3_readToken_133 : decode cX3_readToken 133 = .ok (.bipush 59, 2) := by decide +kernel
theorem dX3_readToken_135 : decode cX3_readToken 135 = .ok (.if_icmp .ne 7, 3) := by decide +kernel
theorem dX3_readToken_138 : decode cX3_readToken 138 = .ok (.iconst 3, 1) := by decide +kernel
theorem dX3_readToken_139 : decode cX3_readToken 139 = .ok (.goto 4, 3) := by decide +kernel
theorem dX3_readToken_142 : decode cX3_readToken 142 = .ok (.iconst 1, 1) := by decide +kernel
theorem dX3_readToken_143 : decode cX3_readToken 143 = .ok (.putfield 36, 3) := by decide +kernel
theorem dX3_readToken_146 : decode cX3_readToken 146 = .ok (.aload_n 0, 1) := by decide +kernel
theorem dX3_readToken_147 : decode cX3_readToken 147 = .ok (.dup, 1) := by decide +kernel
theorem dX3_readToken_148 : decode cX3_readToken 148 = .ok (.getfield 30, 3) := by decide +kernel
theorem dX3_readToken_151 : decode cX3_readToken 151 = .ok (.iconst 1, 1) := by decide +kernel
theorem dX3_readToken_152 : decode cX3_readToken 152 = .ok (.iadd, 1) := by decide +kernel
theorem dX3_readToken_153 : decode cX3_readToken 153 = .ok (.putfield 30, 3) := by decide +kernel
theorem dX3_readToken_156 : decode cX3_readToken 156 = .ok (.return_, 1) := by decide +kernel
theorem dX3_skipLetters_0 : decode cX3_skipLetters 0 = .ok (.aload_n 0, 1) := by decide +kernel
theorem dX3_skipLetters_1 : decode cX3_skipLetters 1 = .ok (.getfield 30, 3) := by decide +kernel
theorem dX3_skipLetters_4 : decode cX3_skipLetters 4 = .ok (.aload_n 0, 1) := by decide +kernel
theorem dX3_skipLetters_5 : decode cX3_skipLetters 5 = .ok (.getfield 19, 3) := by decide +kernel
theorem dX3_skipLetters_8 : decode cX3_skipLetters 8 = .ok (.if_icmp .ge 31, 3) := by decide +kernel
theorem dX3_skipLetters_11 : decode cX3_skipLetters 11 = .ok (.aload_n 0, 1) := by decide +kernel
theorem dX3_skipLetters_12 : decode cX3_skipLetters 12 = .ok (.getfield 15, 3) := by decide +kernel
theorem dX3_skipLetters_15 : decode cX3_skipLetters 15 = .ok (.aload_n 0, 1) := by decide +kernel
theorem dX3_skipLetters_16 : decode cX3_skipLetters 16 = .ok (.getfield 30, 3) := by decide +kernel
theorem dX3_skipLetters_19 : decode cX3_skipLetters 19 = .ok (.caload, 1) := by decide +kernel
theorem dX3_skipLetters_20 : decode cX3_skipLetters 20 = .ok (.invokestatic 73, 3) := by decide +kernel
theorem dX3_skipLetters_23 : decode cX3_skipLetters 23 = .ok (.ifCond .eq 16, 3) := by decide +kernel
theorem dX3_skipLetters_26 : decode cX3_skipLetters 26 = .ok (.aload_n 0, 1) := by decide +kernel
theorem dX3_skipLetters_27 : decode cX3_skipLetters 27 = .ok (.dup, 1) := by decide +kernel
theorem dX3_skipLetters_28 : decode cX3_skipLetters 28 = .ok (.getfield 30, 3) := by decide +kernel
theorem dX3_skipLetters_31 : decode cX3_skipLetters 31 = .ok (.iconst 1, 1) := by decide +kernel
theorem dX3_skipLetters_32 : decode cX3_skipLetters 32 = .ok (.iadd, 1) := by decide +kernel
theorem dX3_skipLetters_33 : decode cX3_skipLetters 33 = .ok (.putfield 30, 3) := by decide +kernel
theorem dX3_skipLetters_36 : decode cX3_skipLetters 36 = .ok (.goto (-36), 3) := by decide +kernel
theorem dX3_skipLetters_39 : decode cX3_skipLetters 39 = .ok (.return_, 1) := by decide +kernel
theorem dX3_wordRead_0 : decode cX3_wordRead 0 = .ok (.aload_n 0, 1) := by decide +kernel
theorem dX3_wordRead_1 : decode cX3_wordRead 1 = .ok (.ldc 88, 2) := by decide +kernel
theorem dX3_wordRead_3 : decode cX3_wordRead 3 = .ok (.invokevirtual 90, 3) := by decide +kernel
theorem dX3_wordRead_6 : decode cX3_wordRead 6 = .ok (.ifCond .eq 5, 3) := by decide +kernel
theorem dX3_wordRead_9 : decode cX3_wordRead 9 = .ok (.iconst 4, 1) := by decide +kernel
theorem dX3_wordRead_10 : decode cX3_wordRead 10 = .ok (.ireturn, 1) := by decide +kernel
theorem dX3_wordRead_11 : decode cX3_wordRead 11 = .ok (.aload_n 0, 1) := by decide +kernel
theorem dX3_wordRead_12 : decode cX3_wordRead 12 = .ok (.ldc 94, 2) := by decide +kernel
theorem dX3_wordRead_14 : decode cX3_wordRead 14 = .ok (.invokevirtual 90, 3) := by decide +kernel
theorem dX3_wordRead_17 : decode cX3_wordRead 17 = .ok (.ifCond .eq 5, 3) := by decide +kernel
theorem dX3_wordRead_20 : decode cX3_wordRead 20 = .ok (.iconst 5, 1) := by decide +kernel
theorem dX3_wordRead_21 : decode cX3_wordRead 21 = .ok (.ireturn, 1) := by decide +kernel
theorem dX3_wordRead_22 : decode cX3_wordRead 22 = .ok (.aload_n 0, 1) := by decide +kernel
theorem dX3_wordRead_23 : decode cX3_wordRead 23 = .ok (.ldc 96, 2) := by decide +kernel
theorem dX3_wordRead_25 : decode cX3_wordRead 25 = .ok (.invokevirtual 90, 3) := by decide +kernel
theorem dX3_wordRead_28 : decode cX3_wordRead 28 = .ok (.ifCond .eq 6, 3) := by decide +kernel
theorem dX3_wordRead_31 : decode cX3_wordRead 31 = .ok (.bipush 6, 2) := by decide +kernel
theorem dX3_wordRead_33 : decode cX3_wordRead 33 = .ok (.ireturn, 1) := by decide +kernel
theorem dX3_wordRead_34 : decode cX3_wordRead 34 = .ok (.aload_n 0, 1) := by decide +kernel
theorem dX3_wordRead_35 : decode cX3_wordRead 35 = .ok (.ldc 98, 2) := by decide +kernel
theorem dX3_wordRead_37 : decode cX3_wordRead 37 = .ok (.invokevirtual 90, 3) := by decide +kernel
theorem dX3_wordRead_40 : decode cX3_wordRead 40 = .ok (.ifCond .eq 6, 3) := by decide +kernel
theorem dX3_wordRead_43 : decode cX3_wordRead 43 = .ok (.bipush 7, 2) := by decide +kernel
theorem dX3_wordRead_45 : decode cX3_wordRead 45 = .ok (.ireturn, 1) := by decide +kernel
theorem dX3_wordRead_46 : decode cX3_wordRead 46 = .ok (.aload_n 0, 1) := by decide +kernel
theorem dX3_wordRead_47 : decode cX3_wordRead 47 = .ok (.ldc 100, 2) := by decide +kernel
theorem dX3_wordRead_49 : decode cX3_wordRead 49 = .ok (.invokevirtual 90, 3) := by decide +kernel
theorem dX3_wordRead_52 : decode cX3_wordRead 52 = .ok (.ifCond .eq 6, 3) := by decide +kernel
theorem dX3_wordRead_55 : decode cX3_wordRead 55 = .ok (.bipush 8, 2) := by decide +kernel
theorem dX3_wordRead_57 : decode cX3_wordRead 57 = .ok (.ireturn, 1) := by decide +kernel
theorem dX3_wordRead_58 : decode cX3_wordRead 58 = .ok (.aload_n 0, 1) := by decide +kernel
theorem dX3_wordRead_59 : decode cX3_wordRead 59 = .ok (.ldc 102, 2) := by decide +kernel
theorem dX3_wordRead_61 : decode cX3_wordRead 61 = .ok (.invokevirtual 90, 3) := by decide +kernel
theorem dX3_wordRead_64 : decode cX3_wordRead 64 = .ok (.ifCond .eq 8, 3) := by decide +kernel
theorem dX3_wordRead_67 : decode cX3_wordRead 67 = .ok (.bipush 9, 2) := by decide +kernel
theorem dX3_wordRead_69 : decode cX3_wordRead 69 = .ok (.goto 4, 3) := by decide +kernel
theorem dX3_wordRead_72 : decode cX3_wordRead 72 = .ok (.iconst 1, 1) := by decide +kernel
theorem dX3_wordRead_73 : decode cX3_wordRead 73 = .ok (.ireturn, 1) := by decide +kernel
theorem dX3_spells_0 : decode cX3_spells 0 = .ok (.aload_n 0, 1) := by decide +kernel
theorem dX3_spells_1 : decode cX3_spells 1 = .ok (.getfield 30, 3) := by decide +kernel
theorem dX3_spells_4 : decode cX3_spells 4 = .ok (.aload_n 0, 1) := by decide +kernel
theorem dX3_spells_5 : decode cX3_spells 5 = .ok (.getfield 66, 3) := by decide +kernel
theorem dX3_spells_8 : decode cX3_spells 8 = .ok (.isub, 1) := by decide +kernel
theorem dX3_spells_9 : decode cX3_spells 9 = .ok (.aload_n 1, 1) := by decide +kernel
theorem dX3_spells_10 : decode cX3_spells 10 = .ok (.invokevirtual 104, 3) := by decide +kernel
theorem dX3_spells_13 : decode cX3_spells 13 = .ok (.if_icmp .eq 5, 3) := by decide +kernel
theorem dX3_spells_16 : decode cX3_spells 16 = .ok (.iconst 0, 1) := by decide +kernel
theorem dX3_spells_17 : decode cX3_spells 17 = .ok (.ireturn, 1) := by decide +kernel
theorem dX3_spells_18 : decode cX3_spells 18 = .ok (.iconst 0, 1) := by decide +kernel
theorem dX3_spells_19 : decode cX3_spells 19 = .ok (.istore_n 2, 1) := by decide +kernel
theorem dX3_spells_20 : decode cX3_spells 20 = .ok (.iload_n 2, 1) := by decide +kernel
theorem dX3_spells_21 : decode cX3_spells 21 = .ok (.aload_n 1, 1) := by decide +kernel
theorem dX3_spells_22 : decode cX3_spells 22 = .ok (.invokevirtual 104, 3) := by decide +kernel
theorem dX3_spells_25 : decode cX3_spells 25 = .ok (.if_icmp .ge 30, 3) := by decide +kernel
theorem dX3_spells_28 : decode cX3_spells 28 = .ok (.aload_n 0, 1) := by decide +kernel
theorem dX3_spells_29 : decode cX3_spells 29 = .ok (.getfield 15, 3) := by decide +kernel
theorem dX3_spells_32 : decode cX3_spells 32 = .ok (.aload_n 0, 1) := by decide +kernel
theorem dX3_spells_33 : decode cX3_spells 33 = .ok (.getfield 66, 3) := by decide +kernel
theorem dX3_spells_36 : decode cX3_spells 36 = .ok (.iload_n 2, 1) := by decide +kernel
theorem dX3_spells_37 : decode cX3_spells 37 = .ok (.iadd, 1) := by decide +kernel
theorem dX3_spells_38 : decode cX3_spells 38 = .ok (.caload, 1) := by decide +kernel
theorem dX3_spells_39 : decode cX3_spells 39 = .ok (.aload_n 1, 1) := by decide +kernel
theorem dX3_spells_40 : decode cX3_spells 40 = .ok (.iload_n 2, 1) := by decide +kernel
theorem dX3_spells_41 : decode cX3_spells 41 = .ok (.invokevirtual 108, 3) := by decide +kernel
theorem dX3_spells_44 : decode cX3_spells 44 = .ok (.if_icmp .eq 5, 3) := by decide +kernel
theorem dX3_spells_47 : decode cX3_spells 47 = .ok (.iconst 0, 1) := by decide +kernel
theorem dX3_spells_48 : decode cX3_spells 48 = .ok (.ireturn, 1) := by decide +kernel
theorem dX3_spells_49 : decode cX3_spells 49 = .ok (.iinc 2 1, 3) := by decide +kernel
theorem dX3_spells_52 : decode cX3_spells 52 = .ok (.goto (-32), 3) := by decide +kernel
theorem dX3_spells_55 : decode cX3_spells 55 = .ok (.iconst 1, 1) := by decide +kernel
theorem dX3_spells_56 : decode cX3_spells 56 = .ok (.ireturn, 1) := by decide +kernel
theorem dX3_readNumber_0 : decode cX3_readNumber 0 = .ok (.aload_n 0, 1) := by decide +kernel
theorem dX3_readNumber_1 : decode cX3_readNumber 1 = .ok (.getfield 30, 3) := by decide +kernel
theorem dX3_readNumber_4 : decode cX3_readNumber 4 = .ok (.aload_n 0, 1) := by decide +kernel
theorem dX3_readNumber_5 : decode cX3_readNumber 5 = .ok (.getfield 19, 3) := by decide +kernel
theorem dX3_readNumber_8 : decode cX3_readNumber 8 = .ok (.if_icmp .ge 72, 3) := by decide +kernel
theorem dX3_readNumber_11 : decode cX3_readNumber 11 = .ok (.aload_n 0, 1) := by decide +kernel
theorem dX3_readNumber_12 : decode cX3_readNumber 12 = .ok (.getfield 15, 3) := by decide +kernel
theorem dX3_readNumber_15 : decode cX3_readNumber 15 = .ok (.aload_n 0, 1) := by decide +kernel
theorem dX3_readNumber_16 : decode cX3_readNumber 16 = .ok (.getfield 30, 3) := by decide +kernel
theorem dX3_readNumber_19 : decode cX3_readNumber 19 = .ok (.caload, 1) := by decide +kernel
theorem dX3_readNumber_20 : decode cX3_readNumber 20 = .ok (.invokestatic 82, 3) := by decide +kernel
theorem dX3_readNumber_23 : decode cX3_readNumber 23 = .ok (.ifCond .eq 57, 3) := by decide +kernel
theorem dX3_readNumber_26 : decode cX3_readNumber 26 = .ok (.aload_n 0, 1) := by decide +kernel
theorem dX3_readNumber_27 : decode cX3_readNumber 27 = .ok (.aload_n 0, 1) := by decide +kernel
theorem dX3_readNumber_28 : decode cX3_readNumber 28 = .ok (.getfield 30, 3) := by decide +kernel
theorem dX3_readNumber_31 : decode cX3_readNumber 31 = .ok (.aload_n 0, 1) := by decide +kernel
theorem dX3_readNumber_32 : decode cX3_readNumber 32 = .ok (.getfield 66, 3) := by decide +kernel
theorem dX3_readNumber_35 : decode cX3_readNumber 35 = .ok (.isub, 1) := by decide +kernel
theorem dX3_readNumber_36 : decode cX3_readNumber 36 = .ok (.iconst 2, 1) := by decide +kernel
theorem dX3_readNumber_37 : decode cX3_readNumber 37 = .ok (.if_icmp .ge 26, 3) := by decide +kernel
theorem dX3_readNumber_40 : decode cX3_readNumber 40 = .ok (.bipush 10, 2) := by decide +kernel
theorem dX3_readNumber_42 : decode cX3_readNumber 42 = .ok (.aload_n 0, 1) := by decide +kernel
theorem dX3_readNumber_43 : decode cX3_readNumber 43 = .ok (.getfield 63, 3) := by decide +kernel
theorem dX3_readNumber_46 : decode cX3_readNumber 46 = .ok (.imul, 1) := by decide +kernel
theorem dX3_readNumber_47 : decode cX3_readNumber 47 = .ok (.aload_n 0, 1) := by decide +kernel
theorem dX3_readNumber_48 : decode cX3_readNumber 48 = .ok (.getfield 15, 3) := by decide +kernel
theorem dX3_readNumber_51 : decode cX3_readNumber 51 = .ok (.aload_n 0, 1) := by decide +kernel
theorem dX3_readNumber_52 : decode cX3_readNumber 52 = .ok (.getfield 30, 3) := by decide +kernel
theorem dX3_readNumber_55 : decode cX3_readNumber 55 = .ok (.caload, 1) := by decide +kernel
theorem dX3_readNumber_56 : decode cX3_readNumber 56 = .ok (.iadd, 1) := by decide +kernel
theorem dX3_readNumber_57 : decode cX3_readNumber 57 = .ok (.bipush 48, 2) := by decide +kernel
theorem dX3_readNumber_59 : decode cX3_readNumber 59 = .ok (.isub, 1) := by decide +kernel
theorem dX3_readNumber_60 : decode cX3_readNumber 60 = .ok (.goto 4, 3) := by decide +kernel
theorem dX3_readNumber_63 : decode cX3_readNumber 63 = .ok (.iconst 0, 1) := by decide +kernel
theorem dX3_readNumber_64 : decode cX3_readNumber 64 = .ok (.putfield 63, 3) := by decide +kernel
theorem dX3_readNumber_67 : decode cX3_readNumber 67 = .ok (.aload_n 0, 1) := by decide +kernel
theorem dX3_readNumber_68 : decode cX3_readNumber 68 = .ok (.dup, 1) := by decide +kernel
theorem dX3_readNumber_69 : decode cX3_readNumber 69 = .ok (.getfield 30, 3) := by decide +kernel
theorem dX3_readNumber_72 : decode cX3_readNumber 72 = .ok (.iconst 1, 1) := by decide +kernel
theorem dX3_readNumber_73 : decode cX3_readNumber 73 = .ok (.iadd, 1) := by decide +kernel
theorem dX3_readNumber_74 : decode cX3_readNumber 74 = .ok (.putfield 30, 3) := by decide +kernel
theorem dX3_readNumber_77 : decode cX3_readNumber 77 = .ok (.goto (-77), 3) := by decide +kernel
theorem dX3_readNumber_80 : decode cX3_readNumber 80 = .ok (.aload_n 0, 1) := by decide +kernel
theorem dX3_readNumber_81 : decode cX3_readNumber 81 = .ok (.aload_n 0, 1) := by decide +kernel
theorem dX3_readNumber_82 : decode cX3_readNumber 82 = .ok (.getfield 30, 3) := by decide +kernel
theorem dX3_readNumber_85 : decode cX3_readNumber 85 = .ok (.aload_n 0, 1) := by decide +kernel
theorem dX3_readNumber_86 : decode cX3_readNumber 86 = .ok (.getfield 66, 3) := by decide +kernel
theorem dX3_readNumber_89 : decode cX3_readNumber 89 = .ok (.isub, 1) := by decide +kernel
theorem dX3_readNumber_90 : decode cX3_readNumber 90 = .ok (.iconst 2, 1) := by decide +kernel
theorem dX3_readNumber_91 : decode cX3_readNumber 91 = .ok (.if_icmp .gt 7, 3) := by decide +kernel
theorem dX3_readNumber_94 : decode cX3_readNumber 94 = .ok (.iconst 2, 1) := by decide +kernel
theorem dX3_readNumber_95 : decode cX3_readNumber 95 = .ok (.goto 4, 3) := by decide +kernel
theorem dX3_readNumber_98 : decode cX3_readNumber 98 = .ok (.iconst 1, 1) := by decide +kernel
theorem dX3_readNumber_99 : decode cX3_readNumber 99 = .ok (.putfield 36, 3) := by decide +kernel
theorem dX3_readNumber_102 : decode cX3_readNumber 102 = .ok (.return_, 1) := by decide +kernel
theorem dX3_isBlank_0 : decode cX3_isBlank 0 = .ok (.iload_n 0, 1) := by decide +kernel
theorem dX3_isBlank_1 : decode cX3_isBlank 1 = .ok (.bipush 32, 2) := by decide +kernel
theorem dX3_isBlank_3 : decode cX3_isBlank 3 = .ok (.if_icmp .eq 9, 3) := by decide +kernel
theorem dX3_isBlank_6 : decode cX3_isBlank 6 = .ok (.iload_n 0, 1) := by decide +kernel
theorem dX3_isBlank_7 : decode cX3_isBlank 7 = .ok (.bipush 10, 2) := by decide +kernel
theorem dX3_isBlank_9 : decode cX3_isBlank 9 = .ok (.if_icmp .ne 7, 3) := by decide +kernel
theorem dX3_isBlank_12 : decode cX3_isBlank 12 = .ok (.iconst 1, 1) := by decide +kernel
theorem dX3_isBlank_13 : decode cX3_isBlank 13 = .ok (.goto 4, 3) := by decide +kernel
theorem dX3_isBlank_16 : decode cX3_isBlank 16 = .ok (.iconst 0, 1) := by decide +kernel
theorem dX3_isBlank_17 : decode cX3_isBlank 17 = .ok (.ireturn, 1) := by decide +kernel
theorem dX3_isLetter_0 : decode cX3_isLetter 0 = .ok (.iload_n 0, 1) := by decide +kernel
theorem dX3_isLetter_1 : decode cX3_isLetter 1 = .ok (.bipush 97, 2) := by decide +kernel
theorem dX3_isLetter_3 : decode cX3_isLetter 3 = .ok (.if_icmp .lt 9, 3) := by decide +kernel
theorem dX3_isLetter_6 : decode cX3_isLetter 6 = .ok (.iload_n 0, 1) := by decide +kernel
theorem dX3_isLetter_7 : decode cX3_isLetter 7 = .ok (.bipush 122, 2) := by decide +kernel
theorem dX3_isLetter_9 : decode cX3_isLetter 9 = .ok (.if_icmp .le 15, 3) := by decide +kernel
theorem dX3_isLetter_12 : decode cX3_isLetter 12 = .ok (.iload_n 0, 1) := by decide +kernel
theorem dX3_isLetter_13 : decode cX3_isLetter 13 = .ok (.bipush 65, 2) := by decide +kernel
theorem dX3_isLetter_15 : decode cX3_isLetter 15 = .ok (.if_icmp .lt 13, 3) := by decide +kernel
theorem dX3_isLetter_18 : decode cX3_isLetter 18 = .ok (.iload_n 0, 1) := by decide +kernel
theorem dX3_isLetter_19 : decode cX3_isLetter 19 = .ok (.bipush 90, 2) := by decide +kernel
theorem dX3_isLetter_21 : decode cX3_isLetter 21 = .ok (.if_icmp .gt 7, 3) := by decide +kernel
theorem dX3_isLetter_24 : decode cX3_isLetter 24 = .ok (.iconst 1, 1) := by decide +kernel
theorem dX3_isLetter_25 : decode cX3_isLetter 25 = .ok (.goto 4, 3) := by decide +kernel
theorem dX3_isLetter_28 : decode cX3_isLetter 28 = .ok (.iconst 0, 1) := by decide +kernel
theorem dX3_isLetter_29 : decode cX3_isLetter 29 = .ok (.ireturn, 1) := by decide +kernel
theorem dX3_isDigit_0 : decode cX3_isDigit 0 = .ok (.iload_n 0, 1) := by decide +kernel
theorem dX3_isDigit_1 : decode cX3_isDigit 1 = .ok (.bipush 48, 2) := by decide +kernel
theorem dX3_isDigit_3 : decode cX3_isDigit 3 = .ok (.if_icmp .lt 13, 3) := by decide +kernel
theorem dX3_isDigit_6 : decode cX3_isDigit 6 = .ok (.iload_n 0, 1) := by decide +kernel
theorem dX3_isDigit_7 : decode cX3_isDigit 7 = .ok (.bipush 57, 2) := by decide +kernel
theorem dX3_isDigit_9 : decode cX3_isDigit 9 = .ok (.if_icmp .gt 7, 3) := by decide +kernel
theorem dX3_isDigit_12 : decode cX3_isDigit 12 = .ok (.iconst 1, 1) := by decide +kernel
theorem dX3_isDigit_13 : decode cX3_isDigit 13 = .ok (.goto 4, 3) := by decide +kernel
theorem dX3_isDigit_16 : decode cX3_isDigit 16 = .ok (.iconst 0, 1) := by decide +kernel
theorem dX3_isDigit_17 : decode cX3_isDigit 17 = .ok (.ireturn, 1) := by decide +kernel
theorem dX4_init_0 : decode cX4_init 0 = .ok (.aload_n 0, 1) := by decide +kernel
theorem dX4_init_1 : decode cX4_init 1 = .ok (.invokespecial 3, 3) := by decide +kernel
theorem dX4_init_4 : decode cX4_init 4 = .ok (.aload_n 0, 1) := by decide +kernel
theorem dX4_init_5 : decode cX4_init 5 = .ok (.bipush 64, 2) := by decide +kernel
theorem dX4_init_7 : decode cX4_init 7 = .ok (.newarray .int, 2) := by decide +kernel
theorem dX4_init_9 : decode cX4_init 9 = .ok (.putfield 9, 3) := by decide +kernel
theorem dX4_init_12 : decode cX4_init 12 = .ok (.aload_n 0, 1) := by decide +kernel
theorem dX4_init_13 : decode cX4_init 13 = .ok (.bipush 64, 2) := by decide +kernel
theorem dX4_init_15 : decode cX4_init 15 = .ok (.newarray .int, 2) := by decide +kernel
theorem dX4_init_17 : decode cX4_init 17 = .ok (.putfield 15, 3) := by decide +kernel
theorem dX4_init_20 : decode cX4_init 20 = .ok (.aload_n 0, 1) := by decide +kernel
theorem dX4_init_21 : decode cX4_init 21 = .ok (.bipush 6, 2) := by decide +kernel
theorem dX4_init_23 : decode cX4_init 23 = .ok (.newarray .int, 2) := by decide +kernel
theorem dX4_init_25 : decode cX4_init 25 = .ok (.putfield 18, 3) := by decide +kernel
theorem dX4_init_28 : decode cX4_init 28 = .ok (.aload_n 0, 1) := by decide +kernel
theorem dX4_init_29 : decode cX4_init 29 = .ok (.bipush 64, 2) := by decide +kernel
theorem dX4_init_31 : decode cX4_init 31 = .ok (.newarray .int, 2) := by decide +kernel
theorem dX4_init_33 : decode cX4_init 33 = .ok (.putfield 21, 3) := by decide +kernel
theorem dX4_init_36 : decode cX4_init 36 = .ok (.aload_n 0, 1) := by decide +kernel
theorem dX4_init_37 : decode cX4_init 37 = .ok (.bipush 64, 2) := by decide +kernel
theorem dX4_init_39 : decode cX4_init 39 = .ok (.newarray .int, 2) := by decide +kernel
theorem dX4_init_41 : decode cX4_init 41 = .ok (.putfield 24, 3) := by decide +kernel
theorem dX4_init_44 : decode cX4_init 44 = .ok (.aload_n 0, 1) := by decide +kernel
theorem dX4_init_45 : decode cX4_init 45 = .ok (.bipush 25, 2) := by decide +kernel
theorem dX4_init_47 : decode cX4_init 47 = .ok (.newarray .long, 2) := by decide +kernel
theorem dX4_init_49 : decode cX4_init 49 = .ok (.putfield 27, 3) := by decide +kernel
theorem dX4_init_52 : decode cX4_init 52 = .ok (.return_, 1) := by decide +kernel
theorem dX4_lay_0 : decode cX4_lay 0 = .ok (.aload_n 0, 1) := by decide +kernel
theorem dX4_lay_1 : decode cX4_lay 1 = .ok (.iload_n 1, 1) := by decide +kernel
theorem dX4_lay_2 : decode cX4_lay 2 = .ok (.putfield 31, 3) := by decide +kernel
theorem dX4_lay_5 : decode cX4_lay 5 = .ok (.aload_n 0, 1) := by decide +kernel
theorem dX4_lay_6 : decode cX4_lay 6 = .ok (.iload_n 2, 1) := by decide +kernel
theorem dX4_lay_7 : decode cX4_lay 7 = .ok (.putfield 35, 3) := by decide +kernel
theorem dX4_lay_10 : decode cX4_lay 10 = .ok (.aload_n 0, 1) := by decide +kernel
theorem dX4_lay_11 : decode cX4_lay 11 = .ok (.iload_n 1, 1) := by decide +kernel
theorem dX4_lay_12 : decode cX4_lay 12 = .ok (.iload_n 2, 1) := by decide +kernel
theorem dX4_lay_13 : decode cX4_lay 13 = .ok (.imul, 1) := by decide +kernel
theorem dX4_lay_14 : decode cX4_lay 14 = .ok (.putfield 38, 3) := by decide +kernel
theorem dX4_lay_17 : decode cX4_lay 17 = .ok (.aload_n 0, 1) := by decide +kernel
theorem dX4_lay_18 : decode cX4_lay 18 = .ok (.lconst 0, 1) := by decide +kernel
theorem dX4_lay_19 : decode cX4_lay 19 = .ok (.putfield 41, 3) := by decide +kernel
theorem dX4_lay_22 : decode cX4_lay 22 = .ok (.aload_n 0, 1) := by decide +kernel
theorem dX4_lay_23 : decode cX4_lay 23 = .ok (.lconst 0, 1) := by decide +kernel
theorem dX4_lay_24 : decode cX4_lay 24 = .ok (.putfield 45, 3) := by decide +kernel
theorem dX4_lay_27 : decode cX4_lay 27 = .ok (.aload_n 0, 1) := by decide +kernel
theorem dX4_lay_28 : decode cX4_lay 28 = .ok (.iconst 0, 1) := by decide +kernel
theorem dX4_lay_29 : decode cX4_lay 29 = .ok (.putfield 48, 3) := by decide +kernel
theorem dX4_lay_32 : decode cX4_lay 32 = .ok (.aload_n 0, 1) := by decide +kernel
theorem dX4_lay_33 : decode cX4_lay 33 = .ok (.iconst 0, 1) := by decide +kernel
theorem dX4_lay_34 : decode cX4_lay 34 = .ok (.putfield 51, 3) := by decide +kernel
theorem dX4_lay_37 : decode cX4_lay 37 = .ok (.aload_n 0, 1) := by decide +kernel
theorem dX4_lay_38 : decode cX4_lay 38 = .ok (.getfield 9, 3) := by decide +kernel
theorem dX4_lay_41 : decode cX4_lay 41 = .ok (.iconst (-1), 1) := by decide +kernel
theorem dX4_lay_42 : decode cX4_lay 42 = .ok (.invokestatic 54, 3) := by decide +kernel
theorem dX4_lay_45 : decode cX4_lay 45 = .ok (.aload_n 0, 1) := by decide +kernel
theorem dX4_lay_46 : decode cX4_lay 46 = .ok (.getfield 15, 3) := by decide +kernel
theorem dX4_lay_49 : decode cX4_lay 49 = .ok (.iconst 0, 1) := by decide +kernel
theorem dX4_lay_50 : decode cX4_lay 50 = .ok (.invokestatic 54, 3) := by decide +kernel
theorem dX4_lay_53 : decode cX4_lay 53 = .ok (.aload_n 0, 1) := by decide +kernel
theorem dX4_lay_54 : decode cX4_lay 54 = .ok (.getfield 18, 3) := by decide +kernel
theorem dX4_lay_57 : decode cX4_lay 57 = .ok (.bipush 16, 2) := by decide +kernel
theorem dX4_lay_59 : decode cX4_lay 59 = .ok (.invokestatic 54, 3) := by decide +kernel
theorem dX4_lay_62 : decode cX4_lay 62 = .ok (.aload_n 0, 1) := by decide +kernel
theorem dX4_lay_63 : decode cX4_lay 63 = .ok (.invokevirtual 60, 3) := by decide +kernel
theorem dX4_lay_66 : decode cX4_lay 66 = .ok (.aload_n 0, 1) := by decide +kernel
theorem dX4_lay_67 : decode cX4_lay 67 = .ok (.dup, 1) := by decide +kernel
theorem dX4_lay_68 : decode cX4_lay 68 = .ok (.getfield 63, 3) := by decide +kernel
theorem dX4_lay_71 : decode cX4_lay 71 = .ok (.iconst 1, 1) := by decide +kernel
theorem dX4_lay_72 : decode cX4_lay 72 = .ok (.iadd, 1) := by decide +kernel
theorem dX4_lay_73 : decode cX4_lay 73 = .ok (.putfield 63, 3) := by decide +kernel
theorem dX4_lay_76 : decode cX4_lay 76 = .ok (.return_, 1) := by decide +kernel
theorem dX4_layCells_0 : decode cX4_layCells 0 = .ok (.aload_n 0, 1) := by decide +kernel
theorem dX4_layCells_1 : decode cX4_layCells 1 = .ok (.lconst 0, 1) := by decide +kernel
theorem dX4_layCells_2 : decode cX4_layCells 2 = .ok (.putfield 66, 3) := by decide +kernel
theorem dX4_layCells_5 : decode cX4_layCells 5 = .ok (.aload_n 0, 1) := by decide +kernel
theorem dX4_layCells_6 : decode cX4_layCells 6 = .ok (.lconst 0, 1) := by decide +kernel
theorem dX4_layCells_7 : decode cX4_layCells 7 = .ok (.putfield 69, 3) := by decide +kernel
theorem dX4_layCells_10 : decode cX4_layCells 10 = .ok (.aload_n 0, 1) := by decide +kernel
theorem dX4_layCells_11 : decode cX4_layCells 11 = .ok (.lconst 0, 1) := by decide +kernel
theorem dX4_layCells_12 : decode cX4_layCells 12 = .ok (.putfield 72, 3) := by decide +kernel
theorem dX4_layCells_15 : decode cX4_layCells 15 = .ok (.aload_n 0, 1) := by decide +kernel
theorem dX4_layCells_16 : decode cX4_layCells 16 = .ok (.lconst 0, 1) := by decide +kernel
theorem dX4_layCells_17 : decode cX4_layCells 17 = .ok (.putfield 75, 3) := by decide +kernel
theorem dX4_layCells_20 : decode cX4_layCells 20 = .ok (.aload_n 0, 1) := by decide +kernel
theorem dX4_layCells_21 : decode cX4_layCells 21 = .ok (.lconst 0, 1) := by decide +kernel
theorem dX4_layCells_22 : decode cX4_layCells 22 = .ok (.putfield 78, 3) := by decide +kernel
theorem dX4_layCells_25 : decode cX4_layCells 25 = .ok (.iconst 0, 1) := by decide +kernel
theorem dX4_layCells_26 : decode cX4_layCells 26 = .ok (.istore_n 1, 1) := by decide +kernel
theorem dX4_layCells_27 : decode cX4_layCells 27 = .ok (.iload_n 1, 1) := by decide +kernel
theorem dX4_layCells_28 : decode cX4_layCells 28 = .ok (.aload_n 0, 1) := by decide +kernel
theorem dX4_layCells_29 : decode cX4_layCells 29 = .ok (.getfield 35, 3) := by decide +kernel
theorem dX4_layCells_32 : decode cX4_layCells 32 = .ok (.if_icmp .ge 39, 3) := by decide +kernel
theorem dX4_layCells_35 : decode cX4_layCells 35 = .ok (.iconst 0, 1) := by decide +kernel
theorem dX4_layCells_36 : decode cX4_layCells 36 = .ok (.istore_n 2, 1) := by decide +kernel
theorem dX4_layCells_37 : decode cX4_layCells 37 = .ok (.iload_n 2, 1) := by decide +kernel
theorem dX4_layCells_38 : decode cX4_layCells 38 = .ok (.aload_n 0, 1) := by decide +kernel
theorem dX4_layCells_39 : decode cX4_layCells 39 = .ok (.getfield 31, 3) := by decide +kernel
theorem dX4_layCells_42 : decode cX4_layCells 42 = .ok (.if_icmp .ge 23, 3) := by decide +kernel
theorem dX4_layCells_45 : decode cX4_layCells 45 = .ok (.aload_n 0, 1) := by decide +kernel
theorem dX4_layCells_46 : decode cX4_layCells 46 = .ok (.aload_n 0, 1) := by decide +kernel
theorem dX4_layCells_47 : decode cX4_layCells 47 = .ok (.getfield 31, 3) := by decide +kernel
theorem dX4_layCells_50 : decode cX4_layCells 50 = .ok (.iload_n 1, 1) := by decide +kernel
theorem dX4_layCells_51 : decode cX4_layCells 51 = .ok (.imul, 1) := by decide +kernel
theorem dX4_layCells_52 : decode cX4_layCells 52 = .ok (.iload_n 2, 1) := by decide +kernel
theorem dX4_layCells_53 : decode cX4_layCells 53 = .ok (.iadd, 1) := by decide +kernel
theorem dX4_layCells_54 : decode cX4_layCells 54 = .ok (.iload_n 2, 1) := by decide +kernel
theorem dX4_layCells_55 : decode cX4_layCells 55 = .ok (.iload_n 1, 1) := by decide +kernel
theorem dX4_layCells_56 : decode cX4_layCells 56 = .ok (.invokevirtual 81, 3) := by decide +kernel
theorem dX4_layCells_59 : decode cX4_layCells 59 = .ok (.iinc 2 1, 3) := by decide +kernel
theorem dX4_layCells_62 : decode cX4_layCells 62 = .ok (.goto (-25), 3) := by decide +kernel
theorem dX4_layCells_65 : decode cX4_layCells 65 = .ok (.iinc 1 1, 3) := by decide +kernel
theorem dX4_layCells_68 : decode cX4_layCells 68 = .ok (.goto (-41), 3) := by decide +kernel
theorem dX4_layCells_71 : decode cX4_layCells 71 = .ok (.return_, 1) := by decide +kernel
theorem dX4_layCell_0 : decode cX4_layCell 0 = .ok (.iload_n 1, 1) := by decide +kernel
theorem dX4_layCell_1 : decode cX4_layCell 1 = .ok (.ifCond .lt 9, 3) := by decide +kernel
theorem dX4_layCell_4 : decode cX4_layCell 4 = .ok (.iload_n 1, 1) := by decide +kernel
theorem dX4_layCell_5 : decode cX4_layCell 5 = .ok (.bipush 64, 2) := by decide +kernel
theorem dX4_layCell_7 : decode cX4_layCell 7 = .ok (.if_icmp .lt 4, 3) := by decide +kernel
theorem dX4_layCell_10 : decode cX4_layCell 10 = .ok (.return_, 1) := by decide +kernel
theorem dX4_layCell_11 : decode cX4_layCell 11 = .ok (.lconst 1, 1) := by decide +kernel
theorem dX4_layCell_12 : decode cX4_layCell 12 = .ok (.iload_n 1, 1) := by decide +kernel
theorem dX4_layCell_13 : decode cX4_layCell 13 = .ok (.lshl, 1) := by decide +kernel
theorem dX4_layCell_14 : decode cX4_layCell 14 = .ok (.lstore 4, 2) := by decide +kernel
theorem dX4_layCell_16 : decode cX4_layCell 16 = .ok (.aload_n 0, 1) := by decide +kernel
theorem dX4_layCell_17 : decode cX4_layCell 17 = .ok (.getfield 21, 3) := by decide +kernel
theorem dX4_layCell_20 : decode cX4_layCell 20 = .ok (.iload_n 1, 1) := by decide +kernel
theorem dX4_layCell_21 : decode cX4_layCell 21 = .ok (.iload_n 2, 1) := by decide +kernel
theorem dX4_layCell_22 : decode cX4_layCell 22 = .ok (.iastore, 1) := by decide +kernel
theorem dX4_layCell_23 : decode cX4_layCell 23 = .ok (.aload_n 0, 1) := by decide +kernel
theorem dX4_layCell_24 : decode cX4_layCell 24 = .ok (.getfield 24, 3) := by decide +kernel
theorem dX4_layCell_27 : decode cX4_layCell 27 = .ok (.iload_n 1, 1) := by decide +kernel
theorem dX4_layCell_28 : decode cX4_layCell 28 = .ok (.iload_n 3, 1) := by decide +kernel
theorem dX4_layCell_29 : decode cX4_layCell 29 = .ok (.iastore, 1) := by decide +kernel
theorem dX4_layCell_30 : decode cX4_layCell 30 = .ok (.aload_n 0, 1) := by decide +kernel
theorem dX4_layCell_31 : decode cX4_layCell 31 = .ok (.dup, 1) := by decide +kernel
theorem dX4_layCell_32 : decode cX4_layCell 32 = .ok (.getfield 66, 3) := by decide +kernel
theorem dX4_layCell_35 : decode cX4_layCell 35 = .ok (.lload 4, 2) := by decide +kernel
theorem dX4_layCell_37 : decode cX4_layCell 37 = .ok (.lor, 1) := by decide +kernel
theorem dX4_layCell_38 : decode cX4_layCell 38 = .ok (.putfield 66, 3) := by decide +kernel
theorem dX4_layCell_41 : decode cX4_layCell 41 = .ok (.aload_n 0, 1) := by decide +kernel
theorem dX4_layCell_42 : decode cX4_layCell 42 = .ok (.dup, 1) := by decide +kernel
theorem dX4_layCell_43 : decode cX4_layCell 43 = .ok (.getfield 69, 3) := by decide +kernel
theorem dX4_layCell_46 : decode cX4_layCell 46 = .ok (.iload_n 2, 1) := by decide +kernel
theorem dX4_layCell_47 : decode cX4_layCell 47 = .ok (.ifCond .ne 8, 3) := by decide +kernel
theorem dX4_layCell_50 : decode cX4_layCell 50 = .ok (.lload 4, 2) := by decide +kernel
theorem dX4_layCell_52 : decode cX4_layCell 52 = .ok (.goto 4, 3) := by decide +kernel
theorem dX4_layCell_55 : decode cX4_layCell 55 = .ok (.lconst 0, 1) := by decide +kernel
theorem dX4_layCell_56 : decode cX4_layCell 56 = .ok (.lor, 1) := by decide +kernel
theorem dX4_layCell_57 : decode cX4_layCell 57 = .ok (.putfield 69, 3) := by decide +kernel
theorem dX4_layCell_60 : decode cX4_layCell 60 = .ok (.aload_n 0, 1) := by decide +kernel
theorem dX4_layCell_61 : decode cX4_layCell 61 = .ok (.dup, 1) := by decide +kernel
theorem dX4_layCell_62 : decode cX4_layCell 62 = .ok (.getfield 72, 3) := by decide +kernel
theorem dX4_layCell_65 : decode cX4_layCell 65 = .ok (.iload_n 2, 1) := by decide +kernel
theorem dX4_layCell_66 : decode cX4_layCell 66 = .ok (.aload_n 0, 1) := by decide +kernel
theorem dX4_layCell_67 : decode cX4_layCell 67 = .ok (.getfield 31, 3) := by decide +kernel
theorem dX4_layCell_70 : decode cX4_layCell 70 = .ok (.iconst 1, 1) := by decide +kernel
theorem dX4_layCell_71 : decode cX4_layCell 71 = .ok (.isub, 1) := by decide +kernel
theorem dX4_layCell_72 : decode cX4_layCell 72 = .ok (.if_icmp .ne 8, 3) := by decide +kernel
theorem dX4_layCell_75 : decode cX4_layCell 75 = .ok (.lload 4, 2) := by decide +kernel
theorem dX4_layCell_77 : decode cX4_layCell 77 = .ok (.goto 4, 3) := by decide +kernel
theorem dX4_layCell_80 : decode cX4_layCell 80 = .ok (.lconst 0, 1) := by decide +kernel
theorem dX4_layCell_81 : decode cX4_layCell 81 = .ok (.lor, 1) := by decide +kernel
theorem dX4_layCell_82 : decode cX4_layCell 82 = .ok (.putfield 72, 3) := by decide +kernel
theorem dX4_layCell_85 : decode cX4_layCell 85 = .ok (.aload_n 0, 1) := by decide +kernel
theorem dX4_layCell_86 : decode cX4_layCell 86 = .ok (.dup, 1) := by decide +kernel
theorem dX4_layCell_87 : decode cX4_layCell 87 = .ok (.getfield 75, 3) := by decide +kernel
theorem dX4_layCell_90 : decode cX4_layCell 90 = .ok (.iload_n 3, 1) := by decide +kernel
theorem dX4_layCell_91 : decode cX4_layCell 91 = .ok (.ifCond .ne 8, 3) := by decide +kernel
theorem dX4_layCell_94 : decode cX4_layCell 94 = .ok (.lload 4, 2) := by decide +kernel
theorem dX4_layCell_96 : decode cX4_layCell 96 = .ok (.goto 4, 3) := by decide +kernel
theorem dX4_layCell_99 : decode cX4_layCell 99 = .ok (.lconst 0, 1) := by decide +kernel
theorem dX4_layCell_100 : decode cX4_layCell 100 = .ok (.lor, 1) := by decide +kernel
theorem dX4_layCell_101 : decode cX4_layCell 101 = .ok (.putfield 75, 3) := by decide +kernel
theorem dX4_layCell_104 : decode cX4_layCell 104 = .ok (.aload_n 0, 1) := by decide +kernel
theorem dX4_layCell_105 : decode cX4_layCell 105 = .ok (.dup, 1) := by decide +kernel
theorem dX4_layCell_106 : decode cX4_layCell 106 = .ok (.getfield 78, 3) := by decide +kernel
theorem dX4_layCell_109 : decode cX4_layCell 109 = .ok (.iload_n 3, 1) := by decide +kernel
theorem dX4_layCell_110 : decode cX4_layCell 110 = .ok (.aload_n 0, 1) := by decide +kernel
theorem dX4_layCell_111 : decode cX4_layCell 111 = .ok (.getfield 35, 3) := by decide +kernel
theorem dX4_layCell_114 : decode cX4_layCell 114 = .ok (.iconst 1, 1) := by decide +kernel
theorem dX4_layCell_115 : decode cX4_layCell 115 = .ok (.isub, 1) := by decide +kernel
theorem dX4_layCell_116 : decode cX4_layCell 116 = .ok (.if_icmp .ne 8, 3) := by decide +kernel
theorem dX4_layCell_119 : decode cX4_layCell 119 = .ok (.lload 4, 2) := by decide +kernel
theorem dX4_layCell_121 : decode cX4_layCell 121 = .ok (.goto 4, 3) := by decide +kernel
theorem dX4_layCell_124 : decode cX4_layCell 124 = .ok (.lconst 0, 1) := by decide +kernel
theorem dX4_layCell_125 : decode cX4_layCell 125 = .ok (.lor, 1) := by decide +kernel
theorem dX4_layCell_126 : decode cX4_layCell 126 = .ok (.putfield 78, 3) := by decide +kernel
theorem dX4_layCell_129 : decode cX4_layCell 129 = .ok (.return_, 1) := by decide +kernel
theorem dX4_hasCell_0 : decode cX4_hasCell 0 = .ok (.iload_n 1, 1) := by decide +kernel
theorem dX4_hasCell_1 : decode cX4_hasCell 1 = .ok (.ifCond .lt 15, 3) := by decide +kernel
theorem dX4_hasCell_4 : decode cX4_hasCell 4 = .ok (.iload_n 1, 1) := by decide +kernel
theorem dX4_hasCell_5 : decode cX4_hasCell 5 = .ok (.aload_n 0, 1) := by decide +kernel
theorem dX4_hasCell_6 : decode cX4_hasCell 6 = .ok (.getfield 38, 3) := by decide +kernel
theorem dX4_hasCell_9 : decode cX4_hasCell 9 = .ok (.if_icmp .ge 7, 3) := by decide +kernel
theorem dX4_hasCell_12 : decode cX4_hasCell 12 = .ok (.iconst 1, 1) := by decide +kernel
theorem dX4_hasCell_13 : decode cX4_hasCell 13 = .ok (.goto 4, 3) := by decide +kernel
theorem dX4_hasCell_16 : decode cX4_hasCell 16 = .ok (.iconst 0, 1) := by decide +kernel
theorem dX4_hasCell_17 : decode cX4_hasCell 17 = .ok (.ireturn, 1) := by decide +kernel
theorem dX4_setReach_0 : decode cX4_setReach 0 = .ok (.aload_n 0, 1) := by decide +kernel
theorem dX4_setReach_1 : decode cX4_setReach 1 = .ok (.getfield 9, 3) := by decide +kernel
theorem dX4_setReach_4 : decode cX4_setReach 4 = .ok (.iload_n 1, 1) := by decide +kernel
theorem dX4_setReach_5 : decode cX4_setReach 5 = .ok (.iload_n 2, 1) := by decide +kernel
theorem dX4_setReach_6 : decode cX4_setReach 6 = .ok (.iastore, 1) := by decide +kernel
theorem dX4_setReach_7 : decode cX4_setReach 7 = .ok (.aload_n 0, 1) := by decide +kernel
theorem dX4_setReach_8 : decode cX4_setReach 8 = .ok (.aload_n 0, 1) := by decide +kernel
theorem dX4_setReach_9 : decode cX4_setReach 9 = .ok (.getfield 41, 3) := by decide +kernel
theorem dX4_setReach_12 : decode cX4_setReach 12 = .ok (.lconst 1, 1) := by decide +kernel
theorem dX4_setReach_13 : decode cX4_setReach 13 = .ok (.iload_n 1, 1) := by decide +kernel
theorem dX4_setReach_14 : decode cX4_setReach 14 = .ok (.lshl, 1) := by decide +kernel
theorem dX4_setReach_15 : decode cX4_setReach 15 = .ok (.ldc2_w 85, 3) := by decide +kernel
theorem dX4_setReach_18 : decode cX4_setReach 18 = .ok (.lxor, 1) := by decide +kernel
theorem dX4_setReach_19 : decode cX4_setReach 19 = .ok (.land, 1) := by decide +kernel
theorem dX4_setReach_20 : decode cX4_setReach 20 = .ok (.iload_n 2, 1) := by decide +kernel
theorem dX4_setReach_21 : decode cX4_setReach 21 = .ok (.iconst (-1), 1) := by decide +kernel
theorem dX4_setReach_22 : decode cX4_setReach 22 = .ok (.if_icmp .ne 7, 3) := by decide +kernel
theorem dX4_setReach_25 : decode cX4_setReach 25 = .ok (.lconst 0, 1) := by decide +kernel
theorem dX4_setReach_26 : decode cX4_setReach 26 = .ok (.goto 6, 3) := by decide +kernel
theorem dX4_setReach_29 : decode cX4_setReach 29 = .ok (.lconst 1, 1) := by decide +kernel
theorem dX4_setReach_30 : decode cX4_setReach 30 = .ok (.iload_n 1, 1) := by decide +kernel
theorem dX4_setReach_31 : decode cX4_setReach 31 = .ok (.lshl, 1) := by decide +kernel
theorem dX4_setReach_32 : decode cX4_setReach 32 = .ok (.lor, 1) := by decide +kernel
theorem dX4_setReach_33 : decode cX4_setReach 33 = .ok (.putfield 41, 3) := by decide +kernel
theorem dX4_setReach_36 : decode cX4_setReach 36 = .ok (.lconst 0, 1) := by decide +kernel
theorem dX4_setReach_37 : decode cX4_setReach 37 = .ok (.lstore_n 3, 1) := by decide +kernel
theorem dX4_setReach_38 : decode cX4_setReach 38 = .ok (.iconst 3, 1) := by decide +kernel
theorem dX4_setReach_39 : decode cX4_setReach 39 = .ok (.istore 5, 2) := by decide +kernel
theorem dX4_setReach_41 : decode cX4_setReach 41 = .ok (.iload 5, 2) := by decide +kernel
theorem dX4_setReach_43 : decode cX4_setReach 43 = .ok (.ifCond .lt 22, 3) := by decide +kernel
theorem dX4_setReach_46 : decode cX4_setReach 46 = .ok (.aload_n 0, 1) := by decide +kernel
theorem dX4_setReach_47 : decode cX4_setReach 47 = .ok (.lload_n 3, 1) := by decide +kernel
theorem dX4_setReach_48 : decode cX4_setReach 48 = .ok (.invokevirtual 87, 3) := by decide +kernel
theorem dX4_setReach_51 : decode cX4_setReach 51 = .ok (.aload_n 0, 1) := by decide +kernel
theorem dX4_setReach_52 : decode cX4_setReach 52 = .ok (.iload 5, 2) := by decide +kernel
theorem dX4_setReach_54 : decode cX4_setReach 54 = .ok (.invokevirtual 91, 3) := by decide +kernel
theorem dX4_setReach_57 : decode cX4_setReach 57 = .ok (.lor, 1) := by decide +kernel
theorem dX4_setReach_58 : decode cX4_setReach 58 = .ok (.lstore_n 3, 1) := by decide +kernel
theorem dX4_setReach_59 : decode cX4_setReach 59 = .ok (.iinc 5 (-1), 3) := by decide +kernel
theorem dX4_setReach_62 : decode cX4_setReach 62 = .ok (.goto (-21), 3) := by decide +kernel
theorem dX4_setReach_65 : decode cX4_setReach 65 = .ok (.aload_n 0, 1) := by decide +kernel
theorem dX4_setReach_66 : decode cX4_setReach 66 = .ok (.lload_n 3, 1) := by decide +kernel
theorem dX4_setReach_67 : decode cX4_setReach 67 = .ok (.putfield 45, 3) := by decide +kernel
theorem dX4_setReach_70 : decode cX4_setReach 70 = .ok (.aload_n 0, 1) := by decide +kernel
theorem dX4_setReach_71 : decode cX4_setReach 71 = .ok (.dup, 1) := by decide +kernel
theorem dX4_setReach_72 : decode cX4_setReach 72 = .ok (.getfield 63, 3) := by decide +kernel
theorem dX4_setReach_75 : decode cX4_setReach 75 = .ok (.iconst 1, 1) := by decide +kernel
theorem dX4_setReach_76 : decode cX4_setReach 76 = .ok (.iadd, 1) := by decide +kernel
theorem dX4_setReach_77 : decode cX4_setReach 77 = .ok (.putfield 63, 3) := by decide +kernel
theorem dX4_setReach_80 : decode cX4_setReach 80 = .ok (.return_, 1) := by decide +kernel
theorem dX4_landsOfReach_0 : decode cX4_landsOfReach 0 = .ok (.lconst 0, 1) := by decide +kernel
theorem dX4_landsOfReach_1 : decode cX4_landsOfReach 1 = .ok (.lstore_n 2, 1) := by decide +kernel
theorem dX4_landsOfReach_2 : decode cX4_landsOfReach 2 = .ok (.iconst 0, 1) := by decide +kernel
theorem dX4_landsOfReach_3 : decode cX4_landsOfReach 3 = .ok (.istore 4, 2) := by decide +kernel
theorem dX4_landsOfReach_5 : decode cX4_landsOfReach 5 = .ok (.iload 4, 2) := by decide +kernel
theorem dX4_landsOfReach_7 : decode cX4_landsOfReach 7 = .ok (.aload_n 0, 1) := by decide +kernel
theorem dX4_landsOfReach_8 : decode cX4_landsOfReach 8 = .ok (.getfield 38, 3) := by decide +kernel
theorem dX4_landsOfReach_11 : decode cX4_landsOfReach 11 = .ok (.if_icmp .ge 27, 3) := by decide +kernel
theorem dX4_landsOfReach_14 : decode cX4_landsOfReach 14 = .ok (.aload_n 0, 1) := by decide +kernel
theorem dX4_landsOfReach_15 : decode cX4_landsOfReach 15 = .ok (.getfield 9, 3) := by decide +kernel
theorem dX4_landsOfReach_18 : decode cX4_landsOfReach 18 = .ok (.iload 4, 2) := by decide +kernel
theorem dX4_landsOfReach_20 : decode cX4_landsOfReach 20 = .ok (.iaload, 1) := by decide +kernel
theorem dX4_landsOfReach_21 : decode cX4_landsOfReach 21 = .ok (.iload_n 1, 1) := by decide +kernel
theorem dX4_landsOfReach_22 : decode cX4_landsOfReach 22 = .ok (.if_icmp .ne 10, 3) := by decide +kernel
theorem dX4_landsOfReach_25 : decode cX4_landsOfReach 25 = .ok (.lload_n 2, 1) := by decide +kernel
theorem dX4_landsOfReach_26 : decode cX4_landsOfReach 26 = .ok (.lconst 1, 1) := by decide +kernel
theorem dX4_landsOfReach_27 : decode cX4_landsOfReach 27 = .ok (.iload 4, 2) := by decide +kernel
theorem dX4_landsOfReach_29 : decode cX4_landsOfReach 29 = .ok (.lshl, 1) := by decide +kernel
theorem dX4_landsOfReach_30 : decode cX4_landsOfReach 30 = .ok (.lor, 1) := by decide +kernel
theorem dX4_landsOfReach_31 : decode cX4_landsOfReach 31 = .ok (.lstore_n 2, 1) := by decide +kernel
theorem dX4_landsOfReach_32 : decode cX4_landsOfReach 32 = .ok (.iinc 4 1, 3) := by decide +kernel
theorem dX4_landsOfReach_35 : decode cX4_landsOfReach 35 = .ok (.goto (-30), 3) := by decide +kernel
theorem dX4_landsOfReach_38 : decode cX4_landsOfReach 38 = .ok (.lload_n 2, 1) := by decide +kernel
theorem dX4_landsOfReach_39 : decode cX4_landsOfReach 39 = .ok (.lreturn, 1) := by decide +kernel
theorem dX4_grown_0 : decode cX4_grown 0 = .ok (.lload_n 1, 1) := by decide +kernel
theorem dX4_grown_1 : decode cX4_grown 1 = .ok (.aload_n 0, 1) := by decide +kernel
theorem dX4_grown_2 : decode cX4_grown 2 = .ok (.lload_n 1, 1) := by decide +kernel
theorem dX4_grown_3 : decode cX4_grown 3 = .ok (.invokevirtual 95, 3) := by decide +kernel
theorem dX4_grown_6 : decode cX4_grown 6 = .ok (.lor, 1) := by decide +kernel
theorem dX4_grown_7 : decode cX4_grown 7 = .ok (.aload_n 0, 1) := by decide +kernel
theorem dX4_grown_8 : decode cX4_grown 8 = .ok (.lload_n 1, 1) := by decide +kernel
theorem dX4_grown_9 : decode cX4_grown 9 = .ok (.invokevirtual 98, 3) := by decide +kernel
theorem dX4_grown_12 : decode cX4_grown 12 = .ok (.lor, 1) := by decide +kernel
theorem dX4_grown_13 : decode cX4_grown 13 = .ok (.lstore_n 3, 1) := by decide +kernel
theorem dX4_grown_14 : decode cX4_grown 14 = .ok (.lload_n 3, 1) := by decide +kernel
theorem dX4_grown_15 : decode cX4_grown 15 = .ok (.aload_n 0, 1) := by decide +kernel
theorem dX4_grown_16 : decode cX4_grown 16 = .ok (.lload_n 3, 1) := by decide +kernel
theorem dX4_grown_17 : decode cX4_grown 17 = .ok (.invokevirtual 101, 3) := by decide +kernel
theorem dX4_grown_20 : decode cX4_grown 20 = .ok (.lor, 1) := by decide +kernel
theorem dX4_grown_21 : decode cX4_grown 21 = .ok (.aload_n 0, 1) := by decide +kernel
theorem dX4_grown_22 : decode cX4_grown 22 = .ok (.lload_n 3, 1) := by decide +kernel
theorem dX4_grown_23 : decode cX4_grown 23 = .ok (.invokevirtual 104, 3) := by decide +kernel
theorem dX4_grown_26 : decode cX4_grown 26 = .ok (.lor, 1) := by decide +kernel
theorem dX4_grown_27 : decode cX4_grown 27 = .ok (.lreturn, 1) := by decide +kernel
theorem dX4_setSwell_0 : decode cX4_setSwell 0 = .ok (.aload_n 0, 1) := by decide +kernel
theorem dX4_setSwell_1 : decode cX4_setSwell 1 = .ok (.getfield 15, 3) := by decide +kernel
theorem dX4_setSwell_4 : decode cX4_setSwell 4 = .ok (.iload_n 1, 1) := by decide +kernel
theorem dX4_setSwell_5 : decode cX4_setSwell 5 = .ok (.iload_n 2, 1) := by decide +kernel
theorem dX4_setSwell_6 : decode cX4_setSwell 6 = .ok (.iastore, 1) := by decide +kernel
theorem dX4_setSwell_7 : decode cX4_setSwell 7 = .ok (.aload_n 0, 1) := by decide +kernel
theorem dX4_setSwell_8 : decode cX4_setSwell 8 = .ok (.dup, 1) := by decide +kernel
theorem dX4_setSwell_9 : decode cX4_setSwell 9 = .ok (.getfield 63, 3) := by decide +kernel
theorem dX4_setSwell_12 : decode cX4_setSwell 12 = .ok (.iconst 1, 1) := by decide +kernel
theorem dX4_setSwell_13 : decode cX4_setSwell 13 = .ok (.iadd, 1) := by decide +kernel
theorem dX4_setSwell_14 : decode cX4_setSwell 14 = .ok (.putfield 63, 3) := by decide +kernel
theorem dX4_setSwell_17 : decode cX4_setSwell 17 = .ok (.return_, 1) := by decide +kernel
theorem dX4_setDrifts_0 : decode cX4_setDrifts 0 = .ok (.aload_n 0, 1) := by decide +kernel
theorem dX4_setDrifts_1 : decode cX4_setDrifts 1 = .ok (.getfield 18, 3) := by decide +kernel
theorem dX4_setDrifts_4 : decode cX4_setDrifts 4 = .ok (.iload_n 1, 1) := by decide +kernel
theorem dX4_setDrifts_5 : decode cX4_setDrifts 5 = .ok (.iload_n 2, 1) := by decide +kernel
theorem dX4_setDrifts_6 : decode cX4_setDrifts 6 = .ok (.iastore, 1) := by decide +kernel
theorem dX4_setDrifts_7 : decode cX4_setDrifts 7 = .ok (.aload_n 0, 1) := by decide +kernel
theorem dX4_setDrifts_8 : decode cX4_setDrifts 8 = .ok (.dup, 1) := by decide +kernel
theorem dX4_setDrifts_9 : decode cX4_setDrifts 9 = .ok (.getfield 63, 3) := by decide +kernel
theorem dX4_setDrifts_12 : decode cX4_setDrifts 12 = .ok (.iconst 1, 1) := by decide +kernel
theorem dX4_setDrifts_13 : decode cX4_setDrifts 13 = .ok (.iadd, 1) := by decide +kernel
theorem dX4_setDrifts_14 : decode cX4_setDrifts 14 = .ok (.putfield 63, 3) := by decide +kernel
theorem dX4_setDrifts_17 : decode cX4_setDrifts 17 = .ok (.return_, 1) := by decide +kernel
theorem dX4_setWatches_0 : decode cX4_setWatches 0 = .ok (.aload_n 0, 1) := by decide +kernel
theorem dX4_setWatches_1 : decode cX4_setWatches 1 = .ok (.iload_n 1, 1) := by decide +kernel
theorem dX4_setWatches_2 : decode cX4_setWatches 2 = .ok (.putfield 48, 3) := by decide +kernel
theorem dX4_setWatches_5 : decode cX4_setWatches 5 = .ok (.aload_n 0, 1) := by decide +kernel
theorem dX4_setWatches_6 : decode cX4_setWatches 6 = .ok (.iload_n 2, 1) := by decide +kernel
theorem dX4_setWatches_7 : decode cX4_setWatches 7 = .ok (.putfield 51, 3) := by decide +kernel
theorem dX4_setWatches_10 : decode cX4_setWatches 10 = .ok (.aload_n 0, 1) := by decide +kernel
theorem dX4_setWatches_11 : decode cX4_setWatches 11 = .ok (.dup, 1) := by decide +kernel
theorem dX4_setWatches_12 : decode cX4_setWatches 12 = .ok (.getfield 63, 3) := by decide +kernel
theorem dX4_setWatches_15 : decode cX4_setWatches 15 = .ok (.iconst 1, 1) := by decide +kernel
theorem dX4_setWatches_16 : decode cX4_setWatches 16 = .ok (.iadd, 1) := by decide +kernel
theorem dX4_setWatches_17 : decode cX4_setWatches 17 = .ok (.putfield 63, 3) := by decide +kernel
theorem dX4_setWatches_20 : decode cX4_setWatches 20 = .ok (.return_, 1) := by decide +kernel
theorem dX4_driftsBy_0 : decode cX4_driftsBy 0 = .ok (.aload_n 0, 1) := by decide +kernel
theorem dX4_driftsBy_1 : decode cX4_driftsBy 1 = .ok (.getfield 18, 3) := by decide +kernel
theorem dX4_driftsBy_4 : decode cX4_driftsBy 4 = .ok (.iload_n 1, 1) := by decide +kernel
theorem dX4_driftsBy_5 : decode cX4_driftsBy 5 = .ok (.iaload, 1) := by decide +kernel
theorem dX4_driftsBy_6 : decode cX4_driftsBy 6 = .ok (.i2l, 1) := by decide +kernel
theorem dX4_driftsBy_7 : decode cX4_driftsBy 7 = .ok (.iload_n 2, 1) := by decide +kernel
theorem dX4_driftsBy_8 : decode cX4_driftsBy 8 = .ok (.invokestatic 107, 3) := by decide +kernel
theorem dX4_driftsBy_11 : decode cX4_driftsBy 11 = .ok (.ireturn, 1) := by decide +kernel
theorem dX4_isAllLand_0 : decode cX4_isAllLand 0 = .ok (.lload_n 1, 1) := by decide +kernel
theorem dX4_isAllLand_1 : decode cX4_isAllLand 1 = .ok (.aload_n 0, 1) := by decide +kernel
theorem dX4_isAllLand_2 : decode cX4_isAllLand 2 = .ok (.getfield 41, 3) := by decide +kernel
theorem dX4_isAllLand_5 : decode cX4_isAllLand 5 = .ok (.ldc2_w 85, 3) := by decide +kernel
theorem dX4_isAllLand_8 : decode cX4_isAllLand 8 = .ok (.lxor, 1) := by decide +kernel
theorem dX4_isAllLand_9 : decode cX4_isAllLand 9 = .ok (.land, 1) := by decide +kernel
theorem dX4_isAllLand_10 : decode cX4_isAllLand 10 = .ok (.lconst 0, 1) := by decide +kernel
theorem dX4_isAllLand_11 : decode cX4_isAllLand 11 = .ok (.lcmp, 1) := by decide +kernel
theorem dX4_isAllLand_12 : decode cX4_isAllLand 12 = .ok (.ifCond .ne 7, 3) := by decide +kernel
theorem dX4_isAllLand_15 : decode cX4_isAllLand 15 = .ok (.iconst 1, 1) := by decide +kernel
theorem dX4_isAllLand_16 : decode cX4_isAllLand 16 = .ok (.goto 4, 3) := by decide +kernel
theorem dX4_isAllLand_19 : decode cX4_isAllLand 19 = .ok (.iconst 0, 1) := by decide +kernel
theorem dX4_isAllLand_20 : decode cX4_isAllLand 20 = .ok (.ireturn, 1) := by decide +kernel
theorem dX4_signAt_0 : decode cX4_signAt 0 = .ok (.iload_n 3, 1) := by decide +kernel
theorem dX4_signAt_1 : decode cX4_signAt 1 = .ok (.ifCond .ne 10, 3) := by decide +kernel
theorem dX4_signAt_4 : decode cX4_signAt 4 = .ok (.aload_n 0, 1) := by decide +kernel
theorem dX4_signAt_5 : decode cX4_signAt 5 = .ok (.getfield 15, 3) := by decide +kernel
theorem dX4_signAt_8 : decode cX4_signAt 8 = .ok (.iload_n 1, 1) := by decide +kernel
theorem dX4_signAt_9 : decode cX4_signAt 9 = .ok (.iaload, 1) := by decide +kernel
theorem dX4_signAt_10 : decode cX4_signAt 10 = .ok (.ireturn, 1) := by decide +kernel
theorem dX4_signAt_11 : decode cX4_signAt 11 = .ok (.iload_n 3, 1) := by decide +kernel
theorem dX4_signAt_12 : decode cX4_signAt 12 = .ok (.iconst 1, 1) := by decide +kernel
theorem dX4_signAt_13 : decode cX4_signAt 13 = .ok (.if_icmp .ne 28, 3) := by decide +kernel
theorem dX4_signAt_16 : decode cX4_signAt 16 = .ok (.aload_n 0, 1) := by decide +kernel
theorem dX4_signAt_17 : decode cX4_signAt 17 = .ok (.getfield 48, 3) := by decide +kernel
theorem dX4_signAt_20 : decode cX4_signAt 20 = .ok (.i2l, 1) := by decide +kernel
theorem dX4_signAt_21 : decode cX4_signAt 21 = .ok (.iload_n 2, 1) := by decide +kernel
theorem dX4_signAt_22 : decode cX4_signAt 22 = .ok (.invokestatic 107, 3) := by decide +kernel
theorem dX4_signAt_25 : decode cX4_signAt 25 = .ok (.ifCond .eq 14, 3) := by decide +kernel
theorem dX4_signAt_28 : decode cX4_signAt 28 = .ok (.aload_n 0, 1) := by decide +kernel
theorem dX4_signAt_29 : decode cX4_signAt 29 = .ok (.getfield 24, 3) := by decide +kernel
theorem dX4_signAt_32 : decode cX4_signAt 32 = .ok (.iload_n 1, 1) := by decide +kernel
theorem dX4_signAt_33 : decode cX4_signAt 33 = .ok (.iaload, 1) := by decide +kernel
theorem dX4_signAt_34 : decode cX4_signAt 34 = .ok (.iconst 2, 1) := by decide +kernel
theorem dX4_signAt_35 : decode cX4_signAt 35 = .ok (.idiv, 1) := by decide +kernel
theorem dX4_signAt_36 : decode cX4_signAt 36 = .ok (.goto 4, 3) := by decide +kernel
theorem dX4_signAt_39 : decode cX4_signAt 39 = .ok (.iconst (-1), 1) := by decide +kernel
theorem dX4_signAt_40 : decode cX4_signAt 40 = .ok (.ireturn, 1) := by decide +kernel
theorem dX4_signAt_41 : decode cX4_signAt 41 = .ok (.aload_n 0, 1) := by decide +kernel
theorem dX4_signAt_42 : decode cX4_signAt 42 = .ok (.getfield 51, 3) := by decide +kernel
theorem dX4_signAt_45 : decode cX4_signAt 45 = .ok (.i2l, 1) := by decide +kernel
theorem dX4_signAt_46 : decode cX4_signAt 46 = .ok (.iload_n 2, 1) := by decide +kernel
theorem dX4_signAt_47 : decode cX4_signAt 47 = .ok (.invokestatic 107, 3) := by decide +kernel
theorem dX4_signAt_50 : decode cX4_signAt 50 = .ok (.ifCond .eq 18, 3) := by decide +kernel
theorem dX4_signAt_53 : decode cX4_signAt 53 = .ok (.aload_n 0, 1) := by decide +kernel
theorem dX4_signAt_54 : decode cX4_signAt 54 = .ok (.getfield 45, 3) := by decide +kernel
theorem dX4_signAt_57 : decode cX4_signAt 57 = .ok (.iload_n 1, 1) := by decide +kernel
theorem dX4_signAt_58 : decode cX4_signAt 58 = .ok (.invokestatic 107, 3) := by decide +kernel
theorem dX4_signAt_61 : decode cX4_signAt 61 = .ok (.ifCond .eq 7, 3) := by decide +kernel
theorem dX4_signAt_64 : decode cX4_signAt 64 = .ok (.iconst 1, 1) := by decide +kernel
theorem dX4_signAt_65 : decode cX4_signAt 65 = .ok (.goto 4, 3) := by decide +kernel
theorem dX4_signAt_68 : decode cX4_signAt 68 = .ok (.iconst 0, 1) := by decide +kernel
theorem dX4_signAt_69 : decode cX4_signAt 69 = .ok (.ireturn, 1) := by decide +kernel
theorem dX4_having_0 : decode cX4_having 0 = .ok (.lconst 0, 1) := by decide +kernel
theorem dX4_having_1 : decode cX4_having 1 = .ok (.lstore 4, 2) := by decide +kernel
theorem dX4_having_3 : decode cX4_having 3 = .ok (.iconst 0, 1) := by decide +kernel
theorem dX4_having_4 : decode cX4_having 4 = .ok (.istore 6, 2) := by decide +kernel
theorem dX4_having_6 : decode cX4_having 6 = .ok (.iload 6, 2) := by decide +kernel
theorem dX4_having_8 : decode cX4_having 8 = .ok (.aload_n 0, 1) := by decide +kernel
theorem dX4_having_9 : decode cX4_having 9 = .ok (.getfield 38, 3) := by decide +kernel
theorem dX4_having_12 : decode cX4_having 12 = .ok (.if_icmp .ge 30, 3) := by decide +kernel
theorem dX4_having_15 : decode cX4_having 15 = .ok (.aload_n 0, 1) := by decide +kernel
theorem dX4_having_16 : decode cX4_having 16 = .ok (.iload 6, 2) := by decide +kernel
theorem dX4_having_18 : decode cX4_having 18 = .ok (.iload_n 3, 1) := by decide +kernel
theorem dX4_having_19 : decode cX4_having 19 = .ok (.iload_n 1, 1) := by decide +kernel
theorem dX4_having_20 : decode cX4_having 20 = .ok (.invokevirtual 111, 3) := by decide +kernel
theorem dX4_having_23 : decode cX4_having 23 = .ok (.iload_n 2, 1) := by decide +kernel
theorem dX4_having_24 : decode cX4_having 24 = .ok (.if_icmp .ne 12, 3) := by decide +kernel
theorem dX4_having_27 : decode cX4_having 27 = .ok (.lload 4, 2) := by decide +kernel
theorem dX4_having_29 : decode cX4_having 29 = .ok (.lconst 1, 1) := by decide +kernel
theorem dX4_having_30 : decode cX4_having 30 = .ok (.iload 6, 2) := by decide +kernel
theorem dX4_having_32 : decode cX4_having 32 = .ok (.lshl, 1) := by decide +kernel
theorem dX4_having_33 : decode cX4_having 33 = .ok (.lor, 1) := by decide +kernel
theorem dX4_having_34 : decode cX4_having 34 = .ok (.lstore 4, 2) := by decide +kernel
theorem dX4_having_36 : decode cX4_having 36 = .ok (.iinc 6 1, 3) := by decide +kernel
theorem dX4_having_39 : decode cX4_having 39 = .ok (.goto (-33), 3) := by decide +kernel
theorem dX4_having_42 : decode cX4_having 42 = .ok (.lload 4, 2) := by decide +kernel
theorem dX4_having_44 : decode cX4_having 44 = .ok (.lreturn, 1) := by decide +kernel
theorem dX4_target_0 : decode cX4_target 0 = .ok (.aload_n 0, 1) := by decide +kernel
theorem dX4_target_1 : decode cX4_target 1 = .ok (.getfield 21, 3) := by decide +kernel
theorem dX4_target_4 : decode cX4_target 4 = .ok (.iload_n 1, 1) := by decide +kernel
theorem dX4_target_5 : decode cX4_target 5 = .ok (.iaload, 1) := by decide +kernel
theorem dX4_target_6 : decode cX4_target 6 = .ok (.iload_n 2, 1) := by decide +kernel
theorem dX4_target_7 : decode cX4_target 7 = .ok (.invokestatic 115, 3) := by decide +kernel
theorem dX4_target_10 : decode cX4_target 10 = .ok (.iadd, 1) := by decide +kernel
theorem dX4_target_11 : decode cX4_target 11 = .ok (.iload_n 3, 1) := by decide +kernel
theorem dX4_target_12 : decode cX4_target 12 = .ok (.invokestatic 115, 3) := by decide +kernel
theorem dX4_target_15 : decode cX4_target 15 = .ok (.iadd, 1) := by decide +kernel
theorem dX4_target_16 : decode cX4_target 16 = .ok (.istore 4, 2) := by decide +kernel
theorem dX4_target_18 : decode cX4_target 18 = .ok (.aload_n 0, 1) := by decide +kernel
theorem dX4_target_19 : decode cX4_target 19 = .ok (.getfield 24, 3) := by decide +kernel
theorem dX4_target_22 : decode cX4_target 22 = .ok (.iload_n 1, 1) := by decide +kernel
theorem dX4_target_23 : decode cX4_target 23 = .ok (.iaload, 1) := by decide +kernel
theorem dX4_target_24 : decode cX4_target 24 = .ok (.iload_n 2, 1) := by decide +kernel
theorem dX4_target_25 : decode cX4_target 25 = .ok (.invokestatic 119, 3) := by decide +kernel
theorem dX4_target_28 : decode cX4_target 28 = .ok (.iadd, 1) := by decide +kernel
theorem dX4_target_29 : decode cX4_target 29 = .ok (.iload_n 3, 1) := by decide +kernel
theorem dX4_target_30 : decode cX4_target 30 = .ok (.invokestatic 119, 3) := by decide +kernel
theorem dX4_target_33 : decode cX4_target 33 = .ok (.iadd, 1) := by decide +kernel
theorem dX4_target_34 : decode cX4_target 34 = .ok (.istore 5, 2) := by decide +kernel
theorem dX4_target_36 : decode cX4_target 36 = .ok (.aload_n 0, 1) := by decide +kernel
theorem dX4_target_37 : decode cX4_target 37 = .ok (.getfield 31, 3) := by decide +kernel
theorem dX4_target_40 : decode cX4_target 40 = .ok (.iload 5, 2) := by decide +kernel
theorem dX4_target_42 : decode cX4_target 42 = .ok (.aload_n 0, 1) := by decide +kernel
theorem dX4_target_43 : decode cX4_target 43 = .ok (.getfield 35, 3) := by decide +kernel
theorem dX4_target_46 : decode cX4_target 46 = .ok (.iconst 1, 1) := by decide +kernel
theorem dX4_target_47 : decode cX4_target 47 = .ok (.isub, 1) := by decide +kernel
theorem dX4_target_48 : decode cX4_target 48 = .ok (.invokestatic 122, 3) := by decide +kernel
theorem dX4_target_51 : decode cX4_target 51 = .ok (.imul, 1) := by decide +kernel
theorem dX4_target_52 : decode cX4_target 52 = .ok (.iload 4, 2) := by decide +kernel
theorem dX4_target_54 : decode cX4_target 54 = .ok (.aload_n 0, 1) := by decide +kernel
theorem dX4_target_55 : decode cX4_target 55 = .ok (.getfield 31, 3) := by decide +kernel
theorem dX4_target_58 : decode cX4_target 58 = .ok (.iconst 1, 1) := by decide +kernel
theorem dX4_target_59 : decode cX4_target 59 = .ok (.isub, 1) := by decide +kernel
theorem dX4_target_60 : decode cX4_target 60 = .ok (.invokestatic 122, 3) := by decide +kernel
theorem dX4_target_63 : decode cX4_target 63 = .ok (.iadd, 1) := by decide +kernel
theorem dX4_target_64 : decode cX4_target 64 = .ok (.ireturn, 1) := by decide +kernel
theorem dX4_eastward_0 : decode cX4_eastward 0 = .ok (.iload_n 0, 1) := by decide +kernel
theorem dX4_eastward_1 : decode cX4_eastward 1 = .ok (.iconst 3, 1) := by decide +kernel
theorem dX4_eastward_2 : decode cX4_eastward 2 = .ok (.irem, 1) := by decide +kernel
theorem dX4_eastward_3 : decode cX4_eastward 3 = .ok (.iconst 1, 1) := by decide +kernel
theorem dX4_eastward_4 : decode cX4_eastward 4 = .ok (.isub, 1) := by decide +kernel
theorem dX4_eastward_5 : decode cX4_eastward 5 = .ok (.ireturn, 1) := by decide +kernel
theorem dX4_southward_0 : decode cX4_southward 0 = .ok (.iload_n 0, 1) := by decide +kernel
theorem dX4_southward_1 : decode cX4_southward 1 = .ok (.iconst 3, 1) := by decide +kernel
theorem dX4_southward_2 : decode cX4_southward 2 = .ok (.idiv, 1) := by decide +kernel
theorem dX4_southward_3 : decode cX4_southward 3 = .ok (.iconst 1, 1) := by decide +kernel
theorem dX4_southward_4 : decode cX4_southward 4 = .ok (.isub, 1) := by decide +kernel
theorem dX4_southward_5 : decode cX4_southward 5 = .ok (.ireturn, 1) := by decide +kernel
theorem dX4_clamped_0 : decode cX4_clamped 0 = .ok (.iconst 0, 1) := by decide +kernel
theorem dX4_clamped_1 : decode cX4_clamped 1 = .ok (.iload_n 0, 1) := by decide +kernel
theorem dX4_clamped_2 : decode cX4_clamped 2 = .ok (.iload_n 1, 1) := by decide +kernel
theorem dX4_clamped_3 : decode cX4_clamped 3 = .ok (.invokestatic 126, 3) := by decide +kernel
theorem dX4_clamped_6 : decode cX4_clamped 6 = .ok (.invokestatic 131, 3) := by decide +kernel
theorem dX4_clamped_9 : decode cX4_clamped 9 = .ok (.ireturn, 1) := by decide +kernel
theorem dX4_spread_0 : decode cX4_spread 0 = .ok (.lload_n 1, 1) := by decide +kernel
theorem dX4_spread_1 : decode cX4_spread 1 = .ok (.aload_n 0, 1) := by decide +kernel
theorem dX4_spread_2 : decode cX4_spread 2 = .ok (.getfield 41, 3) := by decide +kernel
theorem dX4_spread_5 : decode cX4_spread 5 = .ok (.ldc2_w 85, 3) := by decide +kernel
theorem dX4_spread_8 : decode cX4_spread 8 = .ok (.lxor, 1) := by decide +kernel
theorem dX4_spread_9 : decode cX4_spread 9 = .ok (.land, 1) := by decide +kernel
theorem dX4_spread_10 : decode cX4_spread 10 = .ok (.lstore_n 3, 1) := by decide +kernel
theorem dX4_spread_11 : decode cX4_spread 11 = .ok (.aload_n 0, 1) := by decide +kernel
theorem dX4_spread_12 : decode cX4_spread 12 = .ok (.lload_n 1, 1) := by decide +kernel
theorem dX4_spread_13 : decode cX4_spread 13 = .ok (.aload_n 0, 1) := by decide +kernel
theorem dX4_spread_14 : decode cX4_spread 14 = .ok (.getfield 41, 3) := by decide +kernel
theorem dX4_spread_17 : decode cX4_spread 17 = .ok (.land, 1) := by decide +kernel
theorem dX4_spread_18 : decode cX4_spread 18 = .ok (.putfield 134, 3) := by decide +kernel
theorem dX4_spread_21 : decode cX4_spread 21 = .ok (.aload_n 0, 1) := by decide +kernel
theorem dX4_spread_22 : decode cX4_spread 22 = .ok (.lload_n 3, 1) := by decide +kernel
theorem dX4_spread_23 : decode cX4_spread 23 = .ok (.invokevirtual 101, 3) := by decide +kernel
theorem dX4_spread_26 : decode cX4_spread 26 = .ok (.lstore 5, 2) := by decide +kernel
theorem dX4_spread_28 : decode cX4_spread 28 = .ok (.aload_n 0, 1) := by decide +kernel
theorem dX4_spread_29 : decode cX4_spread 29 = .ok (.lload_n 3, 1) := by decide +kernel
theorem dX4_spread_30 : decode cX4_spread 30 = .ok (.invokevirtual 104, 3) := by decide +kernel
theorem dX4_spread_33 : decode cX4_spread 33 = .ok (.lstore 7, 2) := by decide +kernel
theorem dX4_spread_35 : decode cX4_spread 35 = .ok (.aload_n 0, 1) := by decide +kernel
theorem dX4_spread_36 : decode cX4_spread 36 = .ok (.iconst 0, 1) := by decide +kernel
theorem dX4_spread_37 : decode cX4_spread 37 = .ok (.aload_n 0, 1) := by decide +kernel
theorem dX4_spread_38 : decode cX4_spread 38 = .ok (.lload 5, 2) := by decide +kernel
theorem dX4_spread_40 : decode cX4_spread 40 = .ok (.invokevirtual 101, 3) := by decide +kernel
theorem dX4_spread_43 : decode cX4_spread 43 = .ok (.invokevirtual 137, 3) := by decide +kernel
theorem dX4_spread_46 : decode cX4_spread 46 = .ok (.aload_n 0, 1) := by decide +kernel
theorem dX4_spread_47 : decode cX4_spread 47 = .ok (.iconst 1, 1) := by decide +kernel
theorem dX4_spread_48 : decode cX4_spread 48 = .ok (.lload 5, 2) := by decide +kernel
theorem dX4_spread_50 : decode cX4_spread 50 = .ok (.invokevirtual 137, 3) := by decide +kernel
theorem dX4_spread_53 : decode cX4_spread 53 = .ok (.aload_n 0, 1) := by decide +kernel
theorem dX4_spread_54 : decode cX4_spread 54 = .ok (.iconst 2, 1) := by decide +kernel
theorem dX4_spread_55 : decode cX4_spread 55 = .ok (.lload_n 3, 1) := by decide +kernel
theorem dX4_spread_56 : decode cX4_spread 56 = .ok (.invokevirtual 137, 3) := by decide +kernel
theorem dX4_spread_59 : decode cX4_spread 59 = .ok (.aload_n 0, 1) := by decide +kernel
theorem dX4_spread_60 : decode cX4_spread 60 = .ok (.iconst 3, 1) := by decide +kernel
theorem dX4_spread_61 : decode cX4_spread 61 = .ok (.lload 7, 2) := by decide +kernel
theorem dX4_spread_63 : decode cX4_spread 63 = .ok (.invokevirtual 137, 3) := by decide +kernel
theorem dX4_spread_66 : decode cX4_spread 66 = .ok (.aload_n 0, 1) := by decide +kernel
theorem dX4_spread_67 : decode cX4_spread 67 = .ok (.iconst 4, 1) := by decide +kernel
theorem dX4_spread_68 : decode cX4_spread 68 = .ok (.aload_n 0, 1) := by decide +kernel
theorem dX4_spread_69 : decode cX4_spread 69 = .ok (.lload 7, 2) := by decide +kernel
theorem dX4_spread_71 : decode cX4_spread 71 = .ok (.invokevirtual 104, 3) := by decide +kernel
theorem dX4_spread_74 : decode cX4_spread 74 = .ok (.invokevirtual 137, 3) := by decide +kernel
theorem dX4_spread_77 : decode cX4_spread 77 = .ok (.return_, 1) := by decide +kernel
theorem dX4_spreadRow_0 : decode cX4_spreadRow 0 = .ok (.iconst 5, 1) := by decide +kernel
theorem dX4_spreadRow_1 : decode cX4_spreadRow 1 = .ok (.iload_n 1, 1) := by decide +kernel
theorem dX4_spreadRow_2 : decode cX4_spreadRow 2 = .ok (.imul, 1) := by decide +kernel
theorem dX4_spreadRow_3 : decode cX4_spreadRow 3 = .ok (.istore 4, 2) := by decide +kernel
theorem dX4_spreadRow_5 : decode cX4_spreadRow 5 = .ok (.aload_n 0, 1) := by decide +kernel
theorem dX4_spreadRow_6 : decode cX4_spreadRow 6 = .ok (.lload_n 2, 1) := by decide +kernel
theorem dX4_spreadRow_7 : decode cX4_spreadRow 7 = .ok (.invokevirtual 95, 3) := by decide +kernel
theorem dX4_spreadRow_10 : decode cX4_spreadRow 10 = .ok (.lstore 5, 2) := by decide +kernel
theorem dX4_spreadRow_12 : decode cX4_spreadRow 12 = .ok (.aload_n 0, 1) := by decide +kernel
theorem dX4_spreadRow_13 : decode cX4_spreadRow 13 = .ok (.lload_n 2, 1) := by decide +kernel
theorem dX4_spreadRow_14 : decode cX4_spreadRow 14 = .ok (.invokevirtual 98, 3) := by decide +kernel
theorem dX4_spreadRow_17 : decode cX4_spreadRow 17 = .ok (.lstore 7, 2) := by decide +kernel
theorem dX4_spreadRow_19 : decode cX4_spreadRow 19 = .ok (.aload_n 0, 1) := by decide +kernel
theorem dX4_spreadRow_20 : decode cX4_spreadRow 20 = .ok (.getfield 27, 3) := by decide +kernel
theorem dX4_spreadRow_23 : decode cX4_spreadRow 23 = .ok (.iload 4, 2) := by decide +kernel
theorem dX4_spreadRow_25 : decode cX4_spreadRow 25 = .ok (.aload_n 0, 1) := by decide +kernel
theorem dX4_spreadRow_26 : decode cX4_spreadRow 26 = .ok (.lload 5, 2) := by decide +kernel
theorem dX4_spreadRow_28 : decode cX4_spreadRow 28 = .ok (.invokevirtual 95, 3) := by decide +kernel
theorem dX4_spreadRow_31 : decode cX4_spreadRow 31 = .ok (.lastore, 1) := by decide +kernel
theorem dX4_spreadRow_32 : decode cX4_spreadRow 32 = .ok (.aload_n 0, 1) := by decide +kernel
theorem dX4_spreadRow_33 : decode cX4_spreadRow 33 = .ok (.getfield 27, 3) := by decide +kernel
theorem dX4_spreadRow_36 : decode cX4_spreadRow 36 = .ok (.iload 4, 2) := by decide +kernel
theorem dX4_spreadRow_38 : decode cX4_spreadRow 38 = .ok (.iconst 1, 1) := by decide +kernel
theorem dX4_spreadRow_39 : decode cX4_spreadRow 39 = .ok (.iadd, 1) := by decide +kernel
theorem dX4_spreadRow_40 : decode cX4_spreadRow 40 = .ok (.lload 5, 2) := by decide +kernel
theorem dX4_spreadRow_42 : decode cX4_spreadRow 42 = .ok (.lastore, 1) := by decide +kernel
theorem dX4_spreadRow_43 : decode cX4_spreadRow 43 = .ok (.aload_n 0, 1) := by decide +kernel
theorem dX4_spreadRow_44 : decode cX4_spreadRow 44 = .ok (.getfield 27, 3) := by decide +kernel
theorem dX4_spreadRow_47 : decode cX4_spreadRow 47 = .ok (.iload 4, 2) := by decide +kernel
theorem dX4_spreadRow_49 : decode cX4_spreadRow 49 = .ok (.iconst 2, 1) := by decide +kernel
theorem dX4_spreadRow_50 : decode cX4_spreadRow 50 = .ok (.iadd, 1) := by decide +kernel
theorem dX4_spreadRow_51 : decode cX4_spreadRow 51 = .ok (.lload_n 2, 1) := by decide +kernel
theorem dX4_spreadRow_52 : decode cX4_spreadRow 52 = .ok (.lastore, 1) := by decide +kernel
theorem dX4_spreadRow_53 : decode cX4_spreadRow 53 = .ok (.aload_n 0, 1) := by decide +kernel
theorem dX4_spreadRow_54 : decode cX4_spreadRow 54 = .ok (.getfield 27, 3) := by decide +kernel
theorem dX4_spreadRow_57 : decode cX4_spreadRow 57 = .ok (.iload 4, 2) := by decide +kernel
theorem dX4_spreadRow_59 : decode cX4_spreadRow 59 = .ok (.iconst 3, 1) := by decide +kernel
theorem dX4_spreadRow_60 : decode cX4_spreadRow 60 = .ok (.iadd, 1) := by decide +kernel
theorem dX4_spreadRow_61 : decode cX4_spreadRow 61 = .ok (.lload 7, 2) := by decide +kernel
theorem dX4_spreadRow_63 : decode cX4_spreadRow 63 = .ok (.lastore, 1) := by decide +kernel
theorem dX4_spreadRow_64 : decode cX4_spreadRow 64 = .ok (.aload_n 0, 1) := by decide +kernel
theorem dX4_spreadRow_65 : decode cX4_spreadRow 65 = .ok (.getfield 27, 3) := by decide +kernel
theorem dX4_spreadRow_68 : decode cX4_spreadRow 68 = .ok (.iload 4, 2) := by decide +kernel
theorem dX4_spreadRow_70 : decode cX4_spreadRow 70 = .ok (.iconst 4, 1) := by decide +kernel
theorem dX4_spreadRow_71 : decode cX4_spreadRow 71 = .ok (.iadd, 1) := by decide +kernel
theorem dX4_spreadRow_72 : decode cX4_spreadRow 72 = .ok (.aload_n 0, 1) := by decide +kernel
theorem dX4_spreadRow_73 : decode cX4_spreadRow 73 = .ok (.lload 7, 2) := by decide +kernel
theorem dX4_spreadRow_75 : decode cX4_spreadRow 75 = .ok (.invokevirtual 98, 3) := by decide +kernel
theorem dX4_spreadRow_78 : decode cX4_spreadRow 78 = .ok (.lastore, 1) := by decide +kernel
theorem dX4_spreadRow_79 : decode cX4_spreadRow 79 = .ok (.return_, 1) := by decide +kernel
theorem dX4_spreadBy_0 : decode cX4_spreadBy 0 = .ok (.aload_n 0, 1) := by decide +kernel
theorem dX4_spreadBy_1 : decode cX4_spreadBy 1 = .ok (.getfield 134, 3) := by decide +kernel
theorem dX4_spreadBy_4 : decode cX4_spreadBy 4 = .ok (.lstore_n 3, 1) := by decide +kernel
theorem dX4_spreadBy_5 : decode cX4_spreadBy 5 = .ok (.iload_n 1, 1) := by decide +kernel
theorem dX4_spreadBy_6 : decode cX4_spreadBy 6 = .ok (.invokestatic 141, 3) := by decide +kernel
theorem dX4_spreadBy_9 : decode cX4_spreadBy 9 = .ok (.istore 5, 2) := by decide +kernel
theorem dX4_spreadBy_11 : decode cX4_spreadBy 11 = .ok (.iconst 0, 1) := by decide +kernel
theorem dX4_spreadBy_12 : decode cX4_spreadBy 12 = .ok (.istore 6, 2) := by decide +kernel
theorem dX4_spreadBy_14 : decode cX4_spreadBy 14 = .ok (.iload 6, 2) := by decide +kernel
theorem dX4_spreadBy_16 : decode cX4_spreadBy 16 = .ok (.bipush 9, 2) := by decide +kernel
theorem dX4_spreadBy_18 : decode cX4_spreadBy 18 = .ok (.if_icmp .ge 35, 3) := by decide +kernel
theorem dX4_spreadBy_21 : decode cX4_spreadBy 21 = .ok (.aload_n 0, 1) := by decide +kernel
theorem dX4_spreadBy_22 : decode cX4_spreadBy 22 = .ok (.iload_n 2, 1) := by decide +kernel
theorem dX4_spreadBy_23 : decode cX4_spreadBy 23 = .ok (.iload 6, 2) := by decide +kernel
theorem dX4_spreadBy_25 : decode cX4_spreadBy 25 = .ok (.invokevirtual 144, 3) := by decide +kernel
theorem dX4_spreadBy_28 : decode cX4_spreadBy 28 = .ok (.ifCond .eq 19, 3) := by decide +kernel
theorem dX4_spreadBy_31 : decode cX4_spreadBy 31 = .ok (.lload_n 3, 1) := by decide +kernel
theorem dX4_spreadBy_32 : decode cX4_spreadBy 32 = .ok (.aload_n 0, 1) := by decide +kernel
theorem dX4_spreadBy_33 : decode cX4_spreadBy 33 = .ok (.getfield 27, 3) := by decide +kernel
theorem dX4_spreadBy_36 : decode cX4_spreadBy 36 = .ok (.iload 5, 2) := by decide +kernel
theorem dX4_spreadBy_38 : decode cX4_spreadBy 38 = .ok (.iload 6, 2) := by decide +kernel
theorem dX4_spreadBy_40 : decode cX4_spreadBy 40 = .ok (.invokestatic 141, 3) := by decide +kernel
theorem dX4_spreadBy_43 : decode cX4_spreadBy 43 = .ok (.iadd, 1) := by decide +kernel
theorem dX4_spreadBy_44 : decode cX4_spreadBy 44 = .ok (.laload, 1) := by decide +kernel
theorem dX4_spreadBy_45 : decode cX4_spreadBy 45 = .ok (.lor, 1) := by decide +kernel
theorem dX4_spreadBy_46 : decode cX4_spreadBy 46 = .ok (.lstore_n 3, 1) := by decide +kernel
theorem dX4_spreadBy_47 : decode cX4_spreadBy 47 = .ok (.iinc 6 1, 3) := by decide +kernel
theorem dX4_spreadBy_50 : decode cX4_spreadBy 50 = .ok (.goto (-36), 3) := by decide +kernel
theorem dX4_spreadBy_53 : decode cX4_spreadBy 53 = .ok (.lload_n 3, 1) := by decide +kernel
theorem dX4_spreadBy_54 : decode cX4_spreadBy 54 = .ok (.lreturn, 1) := by decide +kernel
theorem dX4_shiftOf_0 : decode cX4_shiftOf 0 = .ok (.iload_n 0, 1) := by decide +kernel
theorem dX4_shiftOf_1 : decode cX4_shiftOf 1 = .ok (.iconst 3, 1) := by decide +kernel
theorem dX4_shiftOf_2 : decode cX4_shiftOf 2 = .ok (.idiv, 1) := by decide +kernel
theorem dX4_shiftOf_3 : decode cX4_shiftOf 3 = .ok (.iconst 5, 1) := by decide +kernel
theorem dX4_shiftOf_4 : decode cX4_shiftOf 4 = .ok (.imul, 1) := by decide +kernel
theorem dX4_shiftOf_5 : decode cX4_shiftOf 5 = .ok (.iload_n 0, 1) := by decide +kernel
theorem dX4_shiftOf_6 : decode cX4_shiftOf 6 = .ok (.iconst 3, 1) := by decide +kernel
theorem dX4_shiftOf_7 : decode cX4_shiftOf 7 = .ok (.irem, 1) := by decide +kernel
theorem dX4_shiftOf_8 : decode cX4_shiftOf 8 = .ok (.iadd, 1) := by decide +kernel
theorem dX4_shiftOf_9 : decode cX4_shiftOf 9 = .ok (.ireturn, 1) := by decide +kernel
theorem dX4_oneWest_0 : decode cX4_oneWest 0 = .ok (.lload_n 1, 1) := by decide +kernel
theorem dX4_oneWest_1 : decode cX4_oneWest 1 = .ok (.aload_n 0, 1) := by decide +kernel
theorem dX4_oneWest_2 : decode cX4_oneWest 2 = .ok (.getfield 69, 3) := by decide +kernel
theorem dX4_oneWest_5 : decode cX4_oneWest 5 = .ok (.ldc2_w 85, 3) := by decide +kernel
theorem dX4_oneWest_8 : decode cX4_oneWest 8 = .ok (.lxor, 1) := by decide +kernel
theorem dX4_oneWest_9 : decode cX4_oneWest 9 = .ok (.land, 1) := by decide +kernel
theorem dX4_oneWest_10 : decode cX4_oneWest 10 = .ok (.iconst 1, 1) := by decide +kernel
theorem dX4_oneWest_11 : decode cX4_oneWest 11 = .ok (.lushr, 1) := by decide +kernel
theorem dX4_oneWest_12 : decode cX4_oneWest 12 = .ok (.lload_n 1, 1) := by decide +kernel
theorem dX4_oneWest_13 : decode cX4_oneWest 13 = .ok (.aload_n 0, 1) := by decide +kernel
theorem dX4_oneWest_14 : decode cX4_oneWest 14 = .ok (.getfield 69, 3) := by decide +kernel
theorem dX4_oneWest_17 : decode cX4_oneWest 17 = .ok (.land, 1) := by decide +kernel
theorem dX4_oneWest_18 : decode cX4_oneWest 18 = .ok (.lor, 1) := by decide +kernel
theorem dX4_oneWest_19 : decode cX4_oneWest 19 = .ok (.lreturn, 1) := by decide +kernel
theorem dX4_oneEast_0 : decode cX4_oneEast 0 = .ok (.lload_n 1, 1) := by decide +kernel
theorem dX4_oneEast_1 : decode cX4_oneEast 1 = .ok (.aload_n 0, 1) := by decide +kernel
theorem dX4_oneEast_2 : decode cX4_oneEast 2 = .ok (.getfield 72, 3) := by decide +kernel
theorem dX4_oneEast_5 : decode cX4_oneEast 5 = .ok (.ldc2_w 85, 3) := by decide +kernel
theorem dX4_oneEast_8 : decode cX4_oneEast 8 = .ok (.lxor, 1) := by decide +kernel
theorem dX4_oneEast_9 : decode cX4_oneEast 9 = .ok (.land, 1) := by decide +kernel
theorem dX4_oneEast_10 : decode cX4_oneEast 10 = .ok (.iconst 1, 1) := by decide +kernel
theorem dX4_oneEast_11 : decode cX4_oneEast 11 = .ok (.lshl, 1) := by decide +kernel
theorem dX4_oneEast_12 : decode cX4_oneEast 12 = .ok (.lload_n 1, 1) := by decide +kernel
theorem dX4_oneEast_13 : decode cX4_oneEast 13 = .ok (.aload_n 0, 1) := by decide +kernel
theorem dX4_oneEast_14 : decode cX4_oneEast 14 = .ok (.getfield 72, 3) := by decide +kernel
theorem dX4_oneEast_17 : decode cX4_oneEast 17 = .ok (.land, 1) := by decide +kernel
theorem dX4_oneEast_18 : decode cX4_oneEast 18 = .ok (.lor, 1) := by decide +kernel
theorem dX4_oneEast_19 : decode cX4_oneEast 19 = .ok (.lreturn, 1) := by decide +kernel
theorem dX4_oneNorth_0 : decode cX4_oneNorth 0 = .ok (.lload_n 1, 1) := by decide +kernel
theorem dX4_oneNorth_1 : decode cX4_oneNorth 1 = .ok (.aload_n 0, 1) := by decide +kernel
theorem dX4_oneNorth_2 : decode cX4_oneNorth 2 = .ok (.getfield 75, 3) := by decide +kernel
theorem dX4_oneNorth_5 : decode cX4_oneNorth 5 = .ok (.ldc2_w 85, 3) := by decide +kernel
theorem dX4_oneNorth_8 : decode cX4_oneNorth 8 = .ok (.lxor, 1) := by decide +kernel
theorem dX4_oneNorth_9 : decode cX4_oneNorth 9 = .ok (.land, 1) := by decide +kernel
theorem dX4_oneNorth_10 : decode cX4_oneNorth 10 = .ok (.aload_n 0, 1) := by decide +kernel
theorem dX4_oneNorth_11 : decode cX4_oneNorth 11 = .ok (.getfield 31, 3) := by decide +kernel
theorem dX4_oneNorth_14 : decode cX4_oneNorth 14 = .ok (.lushr, 1) := by decide +kernel
theorem dX4_oneNorth_15 : decode cX4_oneNorth 15 = .ok (.lload_n 1, 1) := by decide +kernel
theorem dX4_oneNorth_16 : decode cX4_oneNorth 16 = .ok (.aload_n 0, 1) := by decide +kernel
theorem dX4_oneNorth_17 : decode cX4_oneNorth 17 = .ok (.getfield 75, 3) := by decide +kernel
theorem dX4_oneNorth_20 : decode cX4_oneNorth 20 = .ok (.land, 1) := by decide +kernel
theorem dX4_oneNorth_21 : decode cX4_oneNorth 21 = .ok (.lor, 1) := by decide +kernel
theorem dX4_oneNorth_22 : decode cX4_oneNorth 22 = .ok (.lreturn, 1) := by decide +kernel
theorem dX4_oneSouth_0 : decode cX4_oneSouth 0 = .ok (.lload_n 1, 1) := by decide +kernel
theorem dX4_oneSouth_1 : decode cX4_oneSouth 1 = .ok (.aload_n 0, 1) := by decide +kernel
theorem dX4_oneSouth_2 : decode cX4_oneSouth 2 = .ok (.getfield 78, 3) := by decide +kernel
theorem dX4_oneSouth_5 : decode cX4_oneSouth 5 = .ok (.ldc2_w 85, 3) := by decide +kernel
theorem dX4_oneSouth_8 : decode cX4_oneSouth 8 = .ok (.lxor, 1) := by decide +kernel
theorem dX4_oneSouth_9 : decode cX4_oneSouth 9 = .ok (.land, 1) := by decide +kernel
theorem dX4_oneSouth_10 : decode cX4_oneSouth 10 = .ok (.aload_n 0, 1) := by decide +kernel
theorem dX4_oneSouth_11 : decode cX4_oneSouth 11 = .ok (.getfield 31, 3) := by decide +kernel
theorem dX4_oneSouth_14 : decode cX4_oneSouth 14 = .ok (.lshl, 1) := by decide +kernel
theorem dX4_oneSouth_15 : decode cX4_oneSouth 15 = .ok (.lload_n 1, 1) := by decide +kernel
theorem dX4_oneSouth_16 : decode cX4_oneSouth 16 = .ok (.aload_n 0, 1) := by decide +kernel
theorem dX4_oneSouth_17 : decode cX4_oneSouth 17 = .ok (.getfield 78, 3) := by decide +kernel
theorem dX4_oneSouth_20 : decode cX4_oneSouth 20 = .ok (.land, 1) := by decide +kernel
theorem dX4_oneSouth_21 : decode cX4_oneSouth 21 = .ok (.lor, 1) := by decide +kernel
theorem dX4_oneSouth_22 : decode cX4_oneSouth 22 = .ok (.lreturn, 1) := by decide +kernel
theorem dX1_init_0 : decode cX1_init 0 = .ok (.aload_n 0, 1) := by decide +kernel
theorem dX1_init_1 : decode cX1_init 1 = .ok (.invokespecial 3, 3) := by decide +kernel
theorem dX1_init_4 : decode cX1_init 4 = .ok (.aload_n 0, 1) := by decide +kernel
theorem dX1_init_5 : decode cX1_init 5 = .ok (.new 9, 3) := by decide +kernel
theorem dX1_init_8 : decode cX1_init 8 = .ok (.dup, 1) := by decide +kernel
theorem dX1_init_9 : decode cX1_init 9 = .ok (.invokespecial 11, 3) := by decide +kernel
theorem dX1_init_12 : decode cX1_init 12 = .ok (.putfield 12, 3) := by decide +kernel
theorem dX1_init_15 : decode cX1_init 15 = .ok (.aload_n 0, 1) := by decide +kernel
theorem dX1_init_16 : decode cX1_init 16 = .ok (.new 9, 3) := by decide +kernel
theorem dX1_init_19 : decode cX1_init 19 = .ok (.dup, 1) := by decide +kernel
theorem dX1_init_20 : decode cX1_init 20 = .ok (.invokespecial 11, 3) := by decide +kernel
theorem dX1_init_23 : decode cX1_init 23 = .ok (.putfield 18, 3) := by decide +kernel
theorem dX1_init_26 : decode cX1_init 26 = .ok (.aload_n 0, 1) := by decide +kernel
theorem dX1_init_27 : decode cX1_init 27 = .ok (.new 9, 3) := by decide +kernel
theorem dX1_init_30 : decode cX1_init 30 = .ok (.dup, 1) := by decide +kernel
theorem dX1_init_31 : decode cX1_init 31 = .ok (.invokespecial 11, 3) := by decide +kernel
theorem dX1_init_34 : decode cX1_init 34 = .ok (.putfield 21, 3) := by decide +kernel
theorem dX1_init_37 : decode cX1_init 37 = .ok (.aload_n 0, 1) := by decide +kernel
