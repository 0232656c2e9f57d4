theorem dX1_init_38 : decode cX1_init 38 = .ok (.sipush 576, 3) := by decide +kernel
theorem dX1_init_41 : decode cX1_init 41 = .ok (.newarray .int, 2) := by decide +kernel
theorem dX1_init_43 : decode cX1_init 43 = .ok (.putfield 24, 3) := by decide +kernel
theorem dX1_init_46 : decode cX1_init 46 = .ok (.aload_n 0, 1) := by decide +kernel
theorem dX1_init_47 : decode cX1_init 47 = .ok (.bipush 6, 2) := by decide +kernel
theorem dX1_init_49 : decode cX1_init 49 = .ok (.newarray .long, 2) := by decide +kernel
theorem dX1_init_51 : decode cX1_init 51 = .ok (.putfield 28, 3) := by decide +kernel
theorem dX1_init_54 : decode cX1_init 54 = .ok (.return_, 1) := by decide +kernel
theorem dX1_forget_0 : decode cX1_forget 0 = .ok (.aload_n 0, 1) := by decide +kernel
theorem dX1_forget_1 : decode cX1_forget 1 = .ok (.iconst 0, 1) := by decide +kernel
theorem dX1_forget_2 : decode cX1_forget 2 = .ok (.putfield 32, 3) := by decide +kernel
theorem dX1_forget_5 : decode cX1_forget 5 = .ok (.return_, 1) := by decide +kernel
theorem dX1_hear_0 : decode cX1_hear 0 = .ok (.aload_n 0, 1) := by decide +kernel
theorem dX1_hear_1 : decode cX1_hear 1 = .ok (.getfield 32, 3) := by decide +kernel
theorem dX1_hear_4 : decode cX1_hear 4 = .ok (.ifCond .eq 15, 3) := by decide +kernel
theorem dX1_hear_7 : decode cX1_hear 7 = .ok (.aload_n 0, 1) := by decide +kernel
theorem dX1_hear_8 : decode cX1_hear 8 = .ok (.getfield 36, 3) := by decide +kernel
theorem dX1_hear_11 : decode cX1_hear 11 = .ok (.aload_n 1, 1) := by decide +kernel
theorem dX1_hear_12 : decode cX1_hear 12 = .ok (.getfield 40, 3) := by decide +kernel
theorem dX1_hear_15 : decode cX1_hear 15 = .ok (.if_icmp .ne 4, 3) := by decide +kernel
theorem dX1_hear_18 : decode cX1_hear 18 = .ok (.return_, 1) := by decide +kernel
theorem dX1_hear_19 : decode cX1_hear 19 = .ok (.aload_n 0, 1) := by decide +kernel
theorem dX1_hear_20 : decode cX1_hear 20 = .ok (.iconst 1, 1) := by decide +kernel
theorem dX1_hear_21 : decode cX1_hear 21 = .ok (.putfield 32, 3) := by decide +kernel
theorem dX1_hear_24 : decode cX1_hear 24 = .ok (.aload_n 0, 1) := by decide +kernel
theorem dX1_hear_25 : decode cX1_hear 25 = .ok (.aload_n 1, 1) := by decide +kernel
theorem dX1_hear_26 : decode cX1_hear 26 = .ok (.getfield 40, 3) := by decide +kernel
theorem dX1_hear_29 : decode cX1_hear 29 = .ok (.putfield 36, 3) := by decide +kernel
theorem dX1_hear_32 : decode cX1_hear 32 = .ok (.aload_n 0, 1) := by decide +kernel
theorem dX1_hear_33 : decode cX1_hear 33 = .ok (.aload_n 1, 1) := by decide +kernel
theorem dX1_hear_34 : decode cX1_hear 34 = .ok (.invokevirtual 45, 3) := by decide +kernel
theorem dX1_hear_37 : decode cX1_hear 37 = .ok (.aload_n 2, 1) := by decide +kernel
theorem dX1_hear_38 : decode cX1_hear 38 = .ok (.getfield 49, 3) := by decide +kernel
theorem dX1_hear_41 : decode cX1_hear 41 = .ok (.iconst 1, 1) := by decide +kernel
theorem dX1_hear_42 : decode cX1_hear 42 = .ok (.isub, 1) := by decide +kernel
theorem dX1_hear_43 : decode cX1_hear 43 = .ok (.istore_n 3, 1) := by decide +kernel
theorem dX1_hear_44 : decode cX1_hear 44 = .ok (.iload_n 3, 1) := by decide +kernel
theorem dX1_hear_45 : decode cX1_hear 45 = .ok (.ifCond .lt 16, 3) := by decide +kernel
theorem dX1_hear_48 : decode cX1_hear 48 = .ok (.aload_n 0, 1) := by decide +kernel
theorem dX1_hear_49 : decode cX1_hear 49 = .ok (.aload_n 1, 1) := by decide +kernel
theorem dX1_hear_50 : decode cX1_hear 50 = .ok (.aload_n 2, 1) := by decide +kernel
theorem dX1_hear_51 : decode cX1_hear 51 = .ok (.iload_n 3, 1) := by decide +kernel
theorem dX1_hear_52 : decode cX1_hear 52 = .ok (.invokevirtual 54, 3) := by decide +kernel
theorem dX1_hear_55 : decode cX1_hear 55 = .ok (.iinc 3 (-1), 3) := by decide +kernel
theorem dX1_hear_58 : decode cX1_hear 58 = .ok (.goto (-14), 3) := by decide +kernel
theorem dX1_hear_61 : decode cX1_hear 61 = .ok (.return_, 1) := by decide +kernel
theorem dX1_standAtEnd_0 : decode cX1_standAtEnd 0 = .ok (.iconst 0, 1) := by decide +kernel
theorem dX1_standAtEnd_1 : decode cX1_standAtEnd 1 = .ok (.istore_n 2, 1) := by decide +kernel
theorem dX1_standAtEnd_2 : decode cX1_standAtEnd 2 = .ok (.iload_n 2, 1) := by decide +kernel
theorem dX1_standAtEnd_3 : decode cX1_standAtEnd 3 = .ok (.bipush 6, 2) := by decide +kernel
theorem dX1_standAtEnd_5 : decode cX1_standAtEnd 5 = .ok (.if_icmp .ge 59, 3) := by decide +kernel
theorem dX1_standAtEnd_8 : decode cX1_standAtEnd 8 = .ok (.iconst 0, 1) := by decide +kernel
theorem dX1_standAtEnd_9 : decode cX1_standAtEnd 9 = .ok (.istore_n 3, 1) := by decide +kernel
theorem dX1_standAtEnd_10 : decode cX1_standAtEnd 10 = .ok (.iload_n 3, 1) := by decide +kernel
theorem dX1_standAtEnd_11 : decode cX1_standAtEnd 11 = .ok (.bipush 64, 2) := by decide +kernel
theorem dX1_standAtEnd_13 : decode cX1_standAtEnd 13 = .ok (.if_icmp .ge 45, 3) := by decide +kernel
theorem dX1_standAtEnd_16 : decode cX1_standAtEnd 16 = .ok (.aload_n 1, 1) := by decide +kernel
theorem dX1_standAtEnd_17 : decode cX1_standAtEnd 17 = .ok (.getfield 58, 3) := by decide +kernel
theorem dX1_standAtEnd_20 : decode cX1_standAtEnd 20 = .ok (.iload_n 3, 1) := by decide +kernel
theorem dX1_standAtEnd_21 : decode cX1_standAtEnd 21 = .ok (.invokestatic 62, 3) := by decide +kernel
theorem dX1_standAtEnd_24 : decode cX1_standAtEnd 24 = .ok (.ifCond .eq 7, 3) := by decide +kernel
theorem dX1_standAtEnd_27 : decode cX1_standAtEnd 27 = .ok (.iconst 0, 1) := by decide +kernel
theorem dX1_standAtEnd_28 : decode cX1_standAtEnd 28 = .ok (.goto 5, 3) := by decide +kernel
theorem dX1_standAtEnd_31 : decode cX1_standAtEnd 31 = .ok (.ldc 66, 2) := by decide +kernel
theorem dX1_standAtEnd_33 : decode cX1_standAtEnd 33 = .ok (.istore 4, 2) := by decide +kernel
theorem dX1_standAtEnd_35 : decode cX1_standAtEnd 35 = .ok (.aload_n 0, 1) := by decide +kernel
theorem dX1_standAtEnd_36 : decode cX1_standAtEnd 36 = .ok (.getfield 12, 3) := by decide +kernel
theorem dX1_standAtEnd_39 : decode cX1_standAtEnd 39 = .ok (.iload_n 2, 1) := by decide +kernel
theorem dX1_standAtEnd_40 : decode cX1_standAtEnd 40 = .ok (.bipush 64, 2) := by decide +kernel
theorem dX1_standAtEnd_42 : decode cX1_standAtEnd 42 = .ok (.imul, 1) := by decide +kernel
theorem dX1_standAtEnd_43 : decode cX1_standAtEnd 43 = .ok (.iload_n 3, 1) := by decide +kernel
theorem dX1_standAtEnd_44 : decode cX1_standAtEnd 44 = .ok (.iadd, 1) := by decide +kernel
theorem dX1_standAtEnd_45 : decode cX1_standAtEnd 45 = .ok (.iload 4, 2) := by decide +kernel
theorem dX1_standAtEnd_47 : decode cX1_standAtEnd 47 = .ok (.iload 4, 2) := by decide +kernel
theorem dX1_standAtEnd_49 : decode cX1_standAtEnd 49 = .ok (.invokevirtual 67, 3) := by decide +kernel
theorem dX1_standAtEnd_52 : decode cX1_standAtEnd 52 = .ok (.iinc 3 1, 3) := by decide +kernel
theorem dX1_standAtEnd_55 : decode cX1_standAtEnd 55 = .ok (.goto (-45), 3) := by decide +kernel
theorem dX1_standAtEnd_58 : decode cX1_standAtEnd 58 = .ok (.iinc 2 1, 3) := by decide +kernel
theorem dX1_standAtEnd_61 : decode cX1_standAtEnd 61 = .ok (.goto (-59), 3) := by decide +kernel
theorem dX1_standAtEnd_64 : decode cX1_standAtEnd 64 = .ok (.return_, 1) := by decide +kernel
theorem dX1_goThroughLine_0 : decode cX1_goThroughLine 0 = .ok (.aload_n 0, 1) := by decide +kernel
theorem dX1_goThroughLine_1 : decode cX1_goThroughLine 1 = .ok (.aload_n 1, 1) := by decide +kernel
theorem dX1_goThroughLine_2 : decode cX1_goThroughLine 2 = .ok (.aload_n 2, 1) := by decide +kernel
theorem dX1_goThroughLine_3 : decode cX1_goThroughLine 3 = .ok (.getfield 71, 3) := by decide +kernel
theorem dX1_goThroughLine_6 : decode cX1_goThroughLine 6 = .ok (.iload_n 3, 1) := by decide +kernel
theorem dX1_goThroughLine_7 : decode cX1_goThroughLine 7 = .ok (.iaload, 1) := by decide +kernel
theorem dX1_goThroughLine_8 : decode cX1_goThroughLine 8 = .ok (.invokevirtual 74, 3) := by decide +kernel
theorem dX1_goThroughLine_11 : decode cX1_goThroughLine 11 = .ok (.iconst 0, 1) := by decide +kernel
theorem dX1_goThroughLine_12 : decode cX1_goThroughLine 12 = .ok (.istore 4, 2) := by decide +kernel
theorem dX1_goThroughLine_14 : decode cX1_goThroughLine 14 = .ok (.iload 4, 2) := by decide +kernel
theorem dX1_goThroughLine_16 : decode cX1_goThroughLine 16 = .ok (.bipush 6, 2) := by decide +kernel
theorem dX1_goThroughLine_18 : decode cX1_goThroughLine 18 = .ok (.if_icmp .ge 24, 3) := by decide +kernel
theorem dX1_goThroughLine_21 : decode cX1_goThroughLine 21 = .ok (.aload_n 0, 1) := by decide +kernel
theorem dX1_goThroughLine_22 : decode cX1_goThroughLine 22 = .ok (.getfield 28, 3) := by decide +kernel
theorem dX1_goThroughLine_25 : decode cX1_goThroughLine 25 = .ok (.iload 4, 2) := by decide +kernel
theorem dX1_goThroughLine_27 : decode cX1_goThroughLine 27 = .ok (.aload_n 2, 1) := by decide +kernel
theorem dX1_goThroughLine_28 : decode cX1_goThroughLine 28 = .ok (.iload_n 3, 1) := by decide +kernel
theorem dX1_goThroughLine_29 : decode cX1_goThroughLine 29 = .ok (.aload_n 1, 1) := by decide +kernel
theorem dX1_goThroughLine_30 : decode cX1_goThroughLine 30 = .ok (.iload 4, 2) := by decide +kernel
theorem dX1_goThroughLine_32 : decode cX1_goThroughLine 32 = .ok (.invokevirtual 78, 3) := by decide +kernel
theorem dX1_goThroughLine_35 : decode cX1_goThroughLine 35 = .ok (.lastore, 1) := by decide +kernel
theorem dX1_goThroughLine_36 : decode cX1_goThroughLine 36 = .ok (.iinc 4 1, 3) := by decide +kernel
theorem dX1_goThroughLine_39 : decode cX1_goThroughLine 39 = .ok (.goto (-25), 3) := by decide +kernel
theorem dX1_goThroughLine_42 : decode cX1_goThroughLine 42 = .ok (.aload_n 0, 1) := by decide +kernel
theorem dX1_goThroughLine_43 : decode cX1_goThroughLine 43 = .ok (.getfield 18, 3) := by decide +kernel
theorem dX1_goThroughLine_46 : decode cX1_goThroughLine 46 = .ok (.aload_n 0, 1) := by decide +kernel
theorem dX1_goThroughLine_47 : decode cX1_goThroughLine 47 = .ok (.getfield 12, 3) := by decide +kernel
theorem dX1_goThroughLine_50 : decode cX1_goThroughLine 50 = .ok (.invokevirtual 81, 3) := by decide +kernel
theorem dX1_goThroughLine_53 : decode cX1_goThroughLine 53 = .ok (.aload_n 2, 1) := by decide +kernel
theorem dX1_goThroughLine_54 : decode cX1_goThroughLine 54 = .ok (.getfield 85, 3) := by decide +kernel
theorem dX1_goThroughLine_57 : decode cX1_goThroughLine 57 = .ok (.iload_n 3, 1) := by decide +kernel
theorem dX1_goThroughLine_58 : decode cX1_goThroughLine 58 = .ok (.iaload, 1) := by decide +kernel
theorem dX1_goThroughLine_59 : decode cX1_goThroughLine 59 = .ok (.istore 4, 2) := by decide +kernel
theorem dX1_goThroughLine_61 : decode cX1_goThroughLine 61 = .ok (.iload 4, 2) := by decide +kernel
theorem dX1_goThroughLine_63 : decode cX1_goThroughLine 63 = .ok (.ifCond .le 52, 3) := by decide +kernel
theorem dX1_goThroughLine_66 : decode cX1_goThroughLine 66 = .ok (.iconst 0, 1) := by decide +kernel
theorem dX1_goThroughLine_67 : decode cX1_goThroughLine 67 = .ok (.istore 5, 2) := by decide +kernel
theorem dX1_goThroughLine_69 : decode cX1_goThroughLine 69 = .ok (.iload 5, 2) := by decide +kernel
theorem dX1_goThroughLine_71 : decode cX1_goThroughLine 71 = .ok (.bipush 6, 2) := by decide +kernel
theorem dX1_goThroughLine_73 : decode cX1_goThroughLine 73 = .ok (.if_icmp .ge 16, 3) := by decide +kernel
theorem dX1_goThroughLine_76 : decode cX1_goThroughLine 76 = .ok (.aload_n 0, 1) := by decide +kernel
theorem dX1_goThroughLine_77 : decode cX1_goThroughLine 77 = .ok (.aload_n 1, 1) := by decide +kernel
theorem dX1_goThroughLine_78 : decode cX1_goThroughLine 78 = .ok (.iload 5, 2) := by decide +kernel
theorem dX1_goThroughLine_80 : decode cX1_goThroughLine 80 = .ok (.invokevirtual 88, 3) := by decide +kernel
theorem dX1_goThroughLine_83 : decode cX1_goThroughLine 83 = .ok (.iinc 5 1, 3) := by decide +kernel
theorem dX1_goThroughLine_86 : decode cX1_goThroughLine 86 = .ok (.goto (-17), 3) := by decide +kernel
theorem dX1_goThroughLine_89 : decode cX1_goThroughLine 89 = .ok (.aload_n 0, 1) := by decide +kernel
theorem dX1_goThroughLine_90 : decode cX1_goThroughLine 90 = .ok (.getfield 21, 3) := by decide +kernel
theorem dX1_goThroughLine_93 : decode cX1_goThroughLine 93 = .ok (.astore 5, 2) := by decide +kernel
theorem dX1_goThroughLine_95 : decode cX1_goThroughLine 95 = .ok (.aload_n 0, 1) := by decide +kernel
theorem dX1_goThroughLine_96 : decode cX1_goThroughLine 96 = .ok (.aload_n 0, 1) := by decide +kernel
theorem dX1_goThroughLine_97 : decode cX1_goThroughLine 97 = .ok (.getfield 18, 3) := by decide +kernel
theorem dX1_goThroughLine_100 : decode cX1_goThroughLine 100 = .ok (.putfield 21, 3) := by decide +kernel
theorem dX1_goThroughLine_103 : decode cX1_goThroughLine 103 = .ok (.aload_n 0, 1) := by decide +kernel
theorem dX1_goThroughLine_104 : decode cX1_goThroughLine 104 = .ok (.aload 5, 2) := by decide +kernel
theorem dX1_goThroughLine_106 : decode cX1_goThroughLine 106 = .ok (.putfield 18, 3) := by decide +kernel
theorem dX1_goThroughLine_109 : decode cX1_goThroughLine 109 = .ok (.iinc 4 (-1), 3) := by decide +kernel
theorem dX1_goThroughLine_112 : decode cX1_goThroughLine 112 = .ok (.goto (-51), 3) := by decide +kernel
theorem dX1_goThroughLine_115 : decode cX1_goThroughLine 115 = .ok (.aload_n 0, 1) := by decide +kernel
theorem dX1_goThroughLine_116 : decode cX1_goThroughLine 116 = .ok (.getfield 18, 3) := by decide +kernel
theorem dX1_goThroughLine_119 : decode cX1_goThroughLine 119 = .ok (.astore 4, 2) := by decide +kernel
theorem dX1_goThroughLine_121 : decode cX1_goThroughLine 121 = .ok (.aload_n 0, 1) := by decide +kernel
theorem dX1_goThroughLine_122 : decode cX1_goThroughLine 122 = .ok (.aload_n 0, 1) := by decide +kernel
theorem dX1_goThroughLine_123 : decode cX1_goThroughLine 123 = .ok (.getfield 12, 3) := by decide +kernel
theorem dX1_goThroughLine_126 : decode cX1_goThroughLine 126 = .ok (.putfield 18, 3) := by decide +kernel
theorem dX1_goThroughLine_129 : decode cX1_goThroughLine 129 = .ok (.aload_n 0, 1) := by decide +kernel
theorem dX1_goThroughLine_130 : decode cX1_goThroughLine 130 = .ok (.aload 4, 2) := by decide +kernel
theorem dX1_goThroughLine_132 : decode cX1_goThroughLine 132 = .ok (.putfield 12, 3) := by decide +kernel
theorem dX1_goThroughLine_135 : decode cX1_goThroughLine 135 = .ok (.return_, 1) := by decide +kernel
theorem dX1_findTargets_0 : decode cX1_findTargets 0 = .ok (.iconst 0, 1) := by decide +kernel
theorem dX1_findTargets_1 : decode cX1_findTargets 1 = .ok (.istore_n 3, 1) := by decide +kernel
theorem dX1_findTargets_2 : decode cX1_findTargets 2 = .ok (.iload_n 3, 1) := by decide +kernel
theorem dX1_findTargets_3 : decode cX1_findTargets 3 = .ok (.aload_n 1, 1) := by decide +kernel
theorem dX1_findTargets_4 : decode cX1_findTargets 4 = .ok (.getfield 91, 3) := by decide +kernel
theorem dX1_findTargets_7 : decode cX1_findTargets 7 = .ok (.if_icmp .ge 45, 3) := by decide +kernel
theorem dX1_findTargets_10 : decode cX1_findTargets 10 = .ok (.iconst 0, 1) := by decide +kernel
theorem dX1_findTargets_11 : decode cX1_findTargets 11 = .ok (.istore 4, 2) := by decide +kernel
theorem dX1_findTargets_13 : decode cX1_findTargets 13 = .ok (.iload 4, 2) := by decide +kernel
theorem dX1_findTargets_15 : decode cX1_findTargets 15 = .ok (.bipush 9, 2) := by decide +kernel
theorem dX1_findTargets_17 : decode cX1_findTargets 17 = .ok (.if_icmp .ge 29, 3) := by decide +kernel
theorem dX1_findTargets_20 : decode cX1_findTargets 20 = .ok (.aload_n 0, 1) := by decide +kernel
theorem dX1_findTargets_21 : decode cX1_findTargets 21 = .ok (.getfield 24, 3) := by decide +kernel
theorem dX1_findTargets_24 : decode cX1_findTargets 24 = .ok (.iload_n 3, 1) := by decide +kernel
theorem dX1_findTargets_25 : decode cX1_findTargets 25 = .ok (.bipush 9, 2) := by decide +kernel
theorem dX1_findTargets_27 : decode cX1_findTargets 27 = .ok (.imul, 1) := by decide +kernel
theorem dX1_findTargets_28 : decode cX1_findTargets 28 = .ok (.iload 4, 2) := by decide +kernel
theorem dX1_findTargets_30 : decode cX1_findTargets 30 = .ok (.iadd, 1) := by decide +kernel
theorem dX1_findTargets_31 : decode cX1_findTargets 31 = .ok (.aload_n 1, 1) := by decide +kernel
theorem dX1_findTargets_32 : decode cX1_findTargets 32 = .ok (.iload_n 3, 1) := by decide +kernel
theorem dX1_findTargets_33 : decode cX1_findTargets 33 = .ok (.iload_n 2, 1) := by decide +kernel
theorem dX1_findTargets_34 : decode cX1_findTargets 34 = .ok (.iload 4, 2) := by decide +kernel
theorem dX1_findTargets_36 : decode cX1_findTargets 36 = .ok (.invokevirtual 94, 3) := by decide +kernel
theorem dX1_findTargets_39 : decode cX1_findTargets 39 = .ok (.iastore, 1) := by decide +kernel
theorem dX1_findTargets_40 : decode cX1_findTargets 40 = .ok (.iinc 4 1, 3) := by decide +kernel
theorem dX1_findTargets_43 : decode cX1_findTargets 43 = .ok (.goto (-30), 3) := by decide +kernel
theorem dX1_findTargets_46 : decode cX1_findTargets 46 = .ok (.iinc 3 1, 3) := by decide +kernel
theorem dX1_findTargets_49 : decode cX1_findTargets 49 = .ok (.goto (-47), 3) := by decide +kernel
theorem dX1_findTargets_52 : decode cX1_findTargets 52 = .ok (.return_, 1) := by decide +kernel
theorem dX1_goThroughHour_0 : decode cX1_goThroughHour 0 = .ok (.iload_n 2, 1) := by decide +kernel
theorem dX1_goThroughHour_1 : decode cX1_goThroughHour 1 = .ok (.iconst 1, 1) := by decide +kernel
theorem dX1_goThroughHour_2 : decode cX1_goThroughHour 2 = .ok (.iadd, 1) := by decide +kernel
theorem dX1_goThroughHour_3 : decode cX1_goThroughHour 3 = .ok (.bipush 6, 2) := by decide +kernel
theorem dX1_goThroughHour_5 : decode cX1_goThroughHour 5 = .ok (.irem, 1) := by decide +kernel
theorem dX1_goThroughHour_6 : decode cX1_goThroughHour 6 = .ok (.bipush 64, 2) := by decide +kernel
theorem dX1_goThroughHour_8 : decode cX1_goThroughHour 8 = .ok (.imul, 1) := by decide +kernel
theorem dX1_goThroughHour_9 : decode cX1_goThroughHour 9 = .ok (.istore_n 3, 1) := by decide +kernel
theorem dX1_goThroughHour_10 : decode cX1_goThroughHour 10 = .ok (.iconst 0, 1) := by decide +kernel
theorem dX1_goThroughHour_11 : decode cX1_goThroughHour 11 = .ok (.istore 4, 2) := by decide +kernel
theorem dX1_goThroughHour_13 : decode cX1_goThroughHour 13 = .ok (.iload 4, 2) := by decide +kernel
theorem dX1_goThroughHour_15 : decode cX1_goThroughHour 15 = .ok (.aload_n 1, 1) := by decide +kernel
theorem dX1_goThroughHour_16 : decode cX1_goThroughHour 16 = .ok (.getfield 91, 3) := by decide +kernel
theorem dX1_goThroughHour_19 : decode cX1_goThroughHour 19 = .ok (.if_icmp .ge 105, 3) := by decide +kernel
theorem dX1_goThroughHour_22 : decode cX1_goThroughHour 22 = .ok (.iload_n 2, 1) := by decide +kernel
theorem dX1_goThroughHour_23 : decode cX1_goThroughHour 23 = .ok (.bipush 64, 2) := by decide +kernel
theorem dX1_goThroughHour_25 : decode cX1_goThroughHour 25 = .ok (.imul, 1) := by decide +kernel
theorem dX1_goThroughHour_26 : decode cX1_goThroughHour 26 = .ok (.iload 4, 2) := by decide +kernel
theorem dX1_goThroughHour_28 : decode cX1_goThroughHour 28 = .ok (.iadd, 1) := by decide +kernel
theorem dX1_goThroughHour_29 : decode cX1_goThroughHour 29 = .ok (.istore 5, 2) := by decide +kernel
theorem dX1_goThroughHour_31 : decode cX1_goThroughHour 31 = .ok (.aload_n 1, 1) := by decide +kernel
theorem dX1_goThroughHour_32 : decode cX1_goThroughHour 32 = .ok (.getfield 58, 3) := by decide +kernel
theorem dX1_goThroughHour_35 : decode cX1_goThroughHour 35 = .ok (.iload 4, 2) := by decide +kernel
theorem dX1_goThroughHour_37 : decode cX1_goThroughHour 37 = .ok (.invokestatic 62, 3) := by decide +kernel
theorem dX1_goThroughHour_40 : decode cX1_goThroughHour 40 = .ok (.ifCond .eq 17, 3) := by decide +kernel
theorem dX1_goThroughHour_43 : decode cX1_goThroughHour 43 = .ok (.aload_n 0, 1) := by decide +kernel
theorem dX1_goThroughHour_44 : decode cX1_goThroughHour 44 = .ok (.getfield 21, 3) := by decide +kernel
theorem dX1_goThroughHour_47 : decode cX1_goThroughHour 47 = .ok (.iload 5, 2) := by decide +kernel
theorem dX1_goThroughHour_49 : decode cX1_goThroughHour 49 = .ok (.iconst 0, 1) := by decide +kernel
theorem dX1_goThroughHour_50 : decode cX1_goThroughHour 50 = .ok (.iconst 0, 1) := by decide +kernel
theorem dX1_goThroughHour_51 : decode cX1_goThroughHour 51 = .ok (.invokevirtual 67, 3) := by decide +kernel
theorem dX1_goThroughHour_54 : decode cX1_goThroughHour 54 = .ok (.goto 64, 3) := by decide +kernel
theorem dX1_goThroughHour_57 : decode cX1_goThroughHour 57 = .ok (.aload_n 0, 1) := by decide +kernel
theorem dX1_goThroughHour_58 : decode cX1_goThroughHour 58 = .ok (.getfield 28, 3) := by decide +kernel
theorem dX1_goThroughHour_61 : decode cX1_goThroughHour 61 = .ok (.iload_n 2, 1) := by decide +kernel
theorem dX1_goThroughHour_62 : decode cX1_goThroughHour 62 = .ok (.laload, 1) := by decide +kernel
theorem dX1_goThroughHour_63 : decode cX1_goThroughHour 63 = .ok (.iload 4, 2) := by decide +kernel
theorem dX1_goThroughHour_65 : decode cX1_goThroughHour 65 = .ok (.invokestatic 62, 3) := by decide +kernel
theorem dX1_goThroughHour_68 : decode cX1_goThroughHour 68 = .ok (.ifCond .eq 35, 3) := by decide +kernel
theorem dX1_goThroughHour_71 : decode cX1_goThroughHour 71 = .ok (.aload_n 0, 1) := by decide +kernel
theorem dX1_goThroughHour_72 : decode cX1_goThroughHour 72 = .ok (.getfield 21, 3) := by decide +kernel
theorem dX1_goThroughHour_75 : decode cX1_goThroughHour 75 = .ok (.iload 5, 2) := by decide +kernel
theorem dX1_goThroughHour_77 : decode cX1_goThroughHour 77 = .ok (.aload_n 0, 1) := by decide +kernel
theorem dX1_goThroughHour_78 : decode cX1_goThroughHour 78 = .ok (.getfield 12, 3) := by decide +kernel
theorem dX1_goThroughHour_81 : decode cX1_goThroughHour 81 = .ok (.getfield 98, 3) := by decide +kernel
theorem dX1_goThroughHour_84 : decode cX1_goThroughHour 84 = .ok (.iload 5, 2) := by decide +kernel
theorem dX1_goThroughHour_86 : decode cX1_goThroughHour 86 = .ok (.iaload, 1) := by decide +kernel
theorem dX1_goThroughHour_87 : decode cX1_goThroughHour 87 = .ok (.aload_n 0, 1) := by decide +kernel
theorem dX1_goThroughHour_88 : decode cX1_goThroughHour 88 = .ok (.getfield 12, 3) := by decide +kernel
theorem dX1_goThroughHour_91 : decode cX1_goThroughHour 91 = .ok (.getfield 101, 3) := by decide +kernel
theorem dX1_goThroughHour_94 : decode cX1_goThroughHour 94 = .ok (.iload 5, 2) := by decide +kernel
theorem dX1_goThroughHour_96 : decode cX1_goThroughHour 96 = .ok (.iaload, 1) := by decide +kernel
theorem dX1_goThroughHour_97 : decode cX1_goThroughHour 97 = .ok (.invokevirtual 67, 3) := by decide +kernel
theorem dX1_goThroughHour_100 : decode cX1_goThroughHour 100 = .ok (.goto 18, 3) := by decide +kernel
theorem dX1_goThroughHour_103 : decode cX1_goThroughHour 103 = .ok (.aload_n 0, 1) := by decide +kernel
theorem dX1_goThroughHour_104 : decode cX1_goThroughHour 104 = .ok (.iload 4, 2) := by decide +kernel
theorem dX1_goThroughHour_106 : decode cX1_goThroughHour 106 = .ok (.iload 5, 2) := by decide +kernel
theorem dX1_goThroughHour_108 : decode cX1_goThroughHour 108 = .ok (.iload_n 3, 1) := by decide +kernel
theorem dX1_goThroughHour_109 : decode cX1_goThroughHour 109 = .ok (.aload_n 1, 1) := by decide +kernel
theorem dX1_goThroughHour_110 : decode cX1_goThroughHour 110 = .ok (.getfield 104, 3) := by decide +kernel
theorem dX1_goThroughHour_113 : decode cX1_goThroughHour 113 = .ok (.iload_n 2, 1) := by decide +kernel
theorem dX1_goThroughHour_114 : decode cX1_goThroughHour 114 = .ok (.iaload, 1) := by decide +kernel
theorem dX1_goThroughHour_115 : decode cX1_goThroughHour 115 = .ok (.invokevirtual 107, 3) := by decide +kernel
theorem dX1_goThroughHour_118 : decode cX1_goThroughHour 118 = .ok (.iinc 4 1, 3) := by decide +kernel
theorem dX1_goThroughHour_121 : decode cX1_goThroughHour 121 = .ok (.goto (-108), 3) := by decide +kernel
theorem dX1_goThroughHour_124 : decode cX1_goThroughHour 124 = .ok (.return_, 1) := by decide +kernel
theorem dX1_steerOn_0 : decode cX1_steerOn 0 = .ok (.iconst 0, 1) := by decide +kernel
theorem dX1_steerOn_1 : decode cX1_steerOn 1 = .ok (.istore 5, 2) := by decide +kernel
theorem dX1_steerOn_3 : decode cX1_steerOn 3 = .ok (.ldc 66, 2) := by decide +kernel
theorem dX1_steerOn_5 : decode cX1_steerOn 5 = .ok (.istore 6, 2) := by decide +kernel
theorem dX1_steerOn_7 : decode cX1_steerOn 7 = .ok (.iconst 0, 1) := by decide +kernel
theorem dX1_steerOn_8 : decode cX1_steerOn 8 = .ok (.istore 7, 2) := by decide +kernel
theorem dX1_steerOn_10 : decode cX1_steerOn 10 = .ok (.iload 7, 2) := by decide +kernel
theorem dX1_steerOn_12 : decode cX1_steerOn 12 = .ok (.bipush 9, 2) := by decide +kernel
theorem dX1_steerOn_14 : decode cX1_steerOn 14 = .ok (.if_icmp .ge 70, 3) := by decide +kernel
theorem dX1_steerOn_17 : decode cX1_steerOn 17 = .ok (.iload 4, 2) := by decide +kernel
theorem dX1_steerOn_19 : decode cX1_steerOn 19 = .ok (.i2l, 1) := by decide +kernel
theorem dX1_steerOn_20 : decode cX1_steerOn 20 = .ok (.iload 7, 2) := by decide +kernel
theorem dX1_steerOn_22 : decode cX1_steerOn 22 = .ok (.invokestatic 62, 3) := by decide +kernel
theorem dX1_steerOn_25 : decode cX1_steerOn 25 = .ok (.ifCond .eq 53, 3) := by decide +kernel
theorem dX1_steerOn_28 : decode cX1_steerOn 28 = .ok (.iload_n 3, 1) := by decide +kernel
theorem dX1_steerOn_29 : decode cX1_steerOn 29 = .ok (.aload_n 0, 1) := by decide +kernel
theorem dX1_steerOn_30 : decode cX1_steerOn 30 = .ok (.getfield 24, 3) := by decide +kernel
theorem dX1_steerOn_33 : decode cX1_steerOn 33 = .ok (.iload_n 1, 1) := by decide +kernel
theorem dX1_steerOn_34 : decode cX1_steerOn 34 = .ok (.bipush 9, 2) := by decide +kernel
theorem dX1_steerOn_36 : decode cX1_steerOn 36 = .ok (.imul, 1) := by decide +kernel
theorem dX1_steerOn_37 : decode cX1_steerOn 37 = .ok (.iload 7, 2) := by decide +kernel
theorem dX1_steerOn_39 : decode cX1_steerOn 39 = .ok (.iadd, 1) := by decide +kernel
theorem dX1_steerOn_40 : decode cX1_steerOn 40 = .ok (.iaload, 1) := by decide +kernel
theorem dX1_steerOn_41 : decode cX1_steerOn 41 = .ok (.iadd, 1) := by decide +kernel
theorem dX1_steerOn_42 : decode cX1_steerOn 42 = .ok (.istore 8, 2) := by decide +kernel
theorem dX1_steerOn_44 : decode cX1_steerOn 44 = .ok (.iload 5, 2) := by decide +kernel
theorem dX1_steerOn_46 : decode cX1_steerOn 46 = .ok (.aload_n 0, 1) := by decide +kernel
theorem dX1_steerOn_47 : decode cX1_steerOn 47 = .ok (.getfield 18, 3) := by decide +kernel
theorem dX1_steerOn_50 : decode cX1_steerOn 50 = .ok (.getfield 98, 3) := by decide +kernel
theorem dX1_steerOn_53 : decode cX1_steerOn 53 = .ok (.iload 8, 2) := by decide +kernel
theorem dX1_steerOn_55 : decode cX1_steerOn 55 = .ok (.iaload, 1) := by decide +kernel
theorem dX1_steerOn_56 : decode cX1_steerOn 56 = .ok (.invokestatic 111, 3) := by decide +kernel
theorem dX1_steerOn_59 : decode cX1_steerOn 59 = .ok (.istore 5, 2) := by decide +kernel
theorem dX1_steerOn_61 : decode cX1_steerOn 61 = .ok (.iload 6, 2) := by decide +kernel
theorem dX1_steerOn_63 : decode cX1_steerOn 63 = .ok (.aload_n 0, 1) := by decide +kernel
theorem dX1_steerOn_64 : decode cX1_steerOn 64 = .ok (.getfield 18, 3) := by decide +kernel
theorem dX1_steerOn_67 : decode cX1_steerOn 67 = .ok (.getfield 101, 3) := by decide +kernel
theorem dX1_steerOn_70 : decode cX1_steerOn 70 = .ok (.iload 8, 2) := by decide +kernel
theorem dX1_steerOn_72 : decode cX1_steerOn 72 = .ok (.iaload, 1) := by decide +kernel
theorem dX1_steerOn_73 : decode cX1_steerOn 73 = .ok (.invokestatic 117, 3) := by decide +kernel
theorem dX1_steerOn_76 : decode cX1_steerOn 76 = .ok (.istore 6, 2) := by decide +kernel
theorem dX1_steerOn_78 : decode cX1_steerOn 78 = .ok (.iinc 7 1, 3) := by decide +kernel
theorem dX1_steerOn_81 : decode cX1_steerOn 81 = .ok (.goto (-71), 3) := by decide +kernel
theorem dX1_steerOn_84 : decode cX1_steerOn 84 = .ok (.aload_n 0, 1) := by decide +kernel
theorem dX1_steerOn_85 : decode cX1_steerOn 85 = .ok (.getfield 21, 3) := by decide +kernel
theorem dX1_steerOn_88 : decode cX1_steerOn 88 = .ok (.iload_n 2, 1) := by decide +kernel
theorem dX1_steerOn_89 : decode cX1_steerOn 89 = .ok (.iload 5, 2) := by decide +kernel
theorem dX1_steerOn_91 : decode cX1_steerOn 91 = .ok (.iconst 1, 1) := by decide +kernel
theorem dX1_steerOn_92 : decode cX1_steerOn 92 = .ok (.iadd, 1) := by decide +kernel
theorem dX1_steerOn_93 : decode cX1_steerOn 93 = .ok (.iload 6, 2) := by decide +kernel
theorem dX1_steerOn_95 : decode cX1_steerOn 95 = .ok (.iconst 1, 1) := by decide +kernel
theorem dX1_steerOn_96 : decode cX1_steerOn 96 = .ok (.iadd, 1) := by decide +kernel
theorem dX1_steerOn_97 : decode cX1_steerOn 97 = .ok (.invokevirtual 67, 3) := by decide +kernel
theorem dX1_steerOn_100 : decode cX1_steerOn 100 = .ok (.return_, 1) := by decide +kernel
theorem dX1_longestOf_0 : decode cX1_longestOf 0 = .ok (.iconst 0, 1) := by decide +kernel
theorem dX1_longestOf_1 : decode cX1_longestOf 1 = .ok (.istore 4, 2) := by decide +kernel
theorem dX1_longestOf_3 : decode cX1_longestOf 3 = .ok (.iconst 0, 1) := by decide +kernel
theorem dX1_longestOf_4 : decode cX1_longestOf 4 = .ok (.istore 5, 2) := by decide +kernel
theorem dX1_longestOf_6 : decode cX1_longestOf 6 = .ok (.iload 5, 2) := by decide +kernel
theorem dX1_longestOf_8 : decode cX1_longestOf 8 = .ok (.bipush 64, 2) := by decide +kernel
theorem dX1_longestOf_10 : decode cX1_longestOf 10 = .ok (.if_icmp .ge 40, 3) := by decide +kernel
theorem dX1_longestOf_13 : decode cX1_longestOf 13 = .ok (.lload_n 1, 1) := by decide +kernel
theorem dX1_longestOf_14 : decode cX1_longestOf 14 = .ok (.iload 5, 2) := by decide +kernel
theorem dX1_longestOf_16 : decode cX1_longestOf 16 = .ok (.invokestatic 62, 3) := by decide +kernel
theorem dX1_longestOf_19 : decode cX1_longestOf 19 = .ok (.ifCond .eq 25, 3) := by decide +kernel
theorem dX1_longestOf_22 : decode cX1_longestOf 22 = .ok (.iload 4, 2) := by decide +kernel
theorem dX1_longestOf_24 : decode cX1_longestOf 24 = .ok (.aload_n 0, 1) := by decide +kernel
theorem dX1_longestOf_25 : decode cX1_longestOf 25 = .ok (.getfield 12, 3) := by decide +kernel
theorem dX1_longestOf_28 : decode cX1_longestOf 28 = .ok (.getfield 98, 3) := by decide +kernel
theorem dX1_longestOf_31 : decode cX1_longestOf 31 = .ok (.iload_n 3, 1) := by decide +kernel
theorem dX1_longestOf_32 : decode cX1_longestOf 32 = .ok (.bipush 64, 2) := by decide +kernel
theorem dX1_longestOf_34 : decode cX1_longestOf 34 = .ok (.imul, 1) := by decide +kernel
theorem dX1_longestOf_35 : decode cX1_longestOf 35 = .ok (.iload 5, 2) := by decide +kernel
theorem dX1_longestOf_37 : decode cX1_longestOf 37 = .ok (.iadd, 1) := by decide +kernel
theorem dX1_longestOf_38 : decode cX1_longestOf 38 = .ok (.iaload, 1) := by decide +kernel
theorem dX1_longestOf_39 : decode cX1_longestOf 39 = .ok (.invokestatic 111, 3) := by decide +kernel
theorem dX1_longestOf_42 : decode cX1_longestOf 42 = .ok (.istore 4, 2) := by decide +kernel
theorem dX1_longestOf_44 : decode cX1_longestOf 44 = .ok (.iinc 5 1, 3) := by decide +kernel
theorem dX1_longestOf_47 : decode cX1_longestOf 47 = .ok (.goto (-41), 3) := by decide +kernel
theorem dX1_longestOf_50 : decode cX1_longestOf 50 = .ok (.iload 4, 2) := by decide +kernel
theorem dX1_longestOf_52 : decode cX1_longestOf 52 = .ok (.ldc 66, 2) := by decide +kernel
theorem dX1_longestOf_54 : decode cX1_longestOf 54 = .ok (.if_icmp .ge 8, 3) := by decide +kernel
theorem dX1_longestOf_57 : decode cX1_longestOf 57 = .ok (.iload 4, 2) := by decide +kernel
theorem dX1_longestOf_59 : decode cX1_longestOf 59 = .ok (.goto 4, 3) := by decide +kernel
theorem dX1_longestOf_62 : decode cX1_longestOf 62 = .ok (.iconst (-1), 1) := by decide +kernel
theorem dX1_longestOf_63 : decode cX1_longestOf 63 = .ok (.ireturn, 1) := by decide +kernel
theorem dX1_shortestOf_0 : decode cX1_shortestOf 0 = .ok (.ldc 66, 2) := by decide +kernel
theorem dX1_shortestOf_2 : decode cX1_shortestOf 2 = .ok (.istore 4, 2) := by decide +kernel
theorem dX1_shortestOf_4 : decode cX1_shortestOf 4 = .ok (.iconst 0, 1) := by decide +kernel
theorem dX1_shortestOf_5 : decode cX1_shortestOf 5 = .ok (.istore 5, 2) := by decide +kernel
theorem dX1_shortestOf_7 : decode cX1_shortestOf 7 = .ok (.iload 5, 2) := by decide +kernel
theorem dX1_shortestOf_9 : decode cX1_shortestOf 9 = .ok (.bipush 64, 2) := by decide +kernel
theorem dX1_shortestOf_11 : decode cX1_shortestOf 11 = .ok (.if_icmp .ge 40, 3) := by decide +kernel
theorem dX1_shortestOf_14 : decode cX1_shortestOf 14 = .ok (.lload_n 1, 1) := by decide +kernel
theorem dX1_shortestOf_15 : decode cX1_shortestOf 15 = .ok (.iload 5, 2) := by decide +kernel
theorem dX1_shortestOf_17 : decode cX1_shortestOf 17 = .ok (.invokestatic 62, 3) := by decide +kernel
theorem dX1_shortestOf_20 : decode cX1_shortestOf 20 = .ok (.ifCond .eq 25, 3) := by decide +kernel
theorem dX1_shortestOf_23 : decode cX1_shortestOf 23 = .ok (.iload 4, 2) := by decide +kernel
theorem dX1_shortestOf_25 : decode cX1_shortestOf 25 = .ok (.aload_n 0, 1) := by decide +kernel
theorem dX1_shortestOf_26 : decode cX1_shortestOf 26 = .ok (.getfield 12, 3) := by decide +kernel
theorem dX1_shortestOf_29 : decode cX1_shortestOf 29 = .ok (.getfield 101, 3) := by decide +kernel
theorem dX1_shortestOf_32 : decode cX1_shortestOf 32 = .ok (.iload_n 3, 1) := by decide +kernel
theorem dX1_shortestOf_33 : decode cX1_shortestOf 33 = .ok (.bipush 64, 2) := by decide +kernel
theorem dX1_shortestOf_35 : decode cX1_shortestOf 35 = .ok (.imul, 1) := by decide +kernel
theorem dX1_shortestOf_36 : decode cX1_shortestOf 36 = .ok (.iload 5, 2) := by decide +kernel
theorem dX1_shortestOf_38 : decode cX1_shortestOf 38 = .ok (.iadd, 1) := by decide +kernel
theorem dX1_shortestOf_39 : decode cX1_shortestOf 39 = .ok (.iaload, 1) := by decide +kernel
theorem dX1_shortestOf_40 : decode cX1_shortestOf 40 = .ok (.invokestatic 117, 3) := by decide +kernel
theorem dX1_shortestOf_43 : decode cX1_shortestOf 43 = .ok (.istore 4, 2) := by decide +kernel
theorem dX1_shortestOf_45 : decode cX1_shortestOf 45 = .ok (.iinc 5 1, 3) := by decide +kernel
theorem dX1_shortestOf_48 : decode cX1_shortestOf 48 = .ok (.goto (-41), 3) := by decide +kernel
theorem dX1_shortestOf_51 : decode cX1_shortestOf 51 = .ok (.iload 4, 2) := by decide +kernel
theorem dX1_shortestOf_53 : decode cX1_shortestOf 53 = .ok (.ldc 66, 2) := by decide +kernel
theorem dX1_shortestOf_55 : decode cX1_shortestOf 55 = .ok (.if_icmp .ge 8, 3) := by decide +kernel
theorem dX1_shortestOf_58 : decode cX1_shortestOf 58 = .ok (.iload 4, 2) := by decide +kernel
theorem dX1_shortestOf_60 : decode cX1_shortestOf 60 = .ok (.goto 4, 3) := by decide +kernel
theorem dX1_shortestOf_63 : decode cX1_shortestOf 63 = .ok (.iconst (-1), 1) := by decide +kernel
theorem dX1_shortestOf_64 : decode cX1_shortestOf 64 = .ok (.ireturn, 1) := by decide +kernel
theorem dX1_unsureOf_0 : decode cX1_unsureOf 0 = .ok (.iconst 0, 1) := by decide +kernel
theorem dX1_unsureOf_1 : decode cX1_unsureOf 1 = .ok (.istore 4, 2) := by decide +kernel
theorem dX1_unsureOf_3 : decode cX1_unsureOf 3 = .ok (.iconst 0, 1) := by decide +kernel
theorem dX1_unsureOf_4 : decode cX1_unsureOf 4 = .ok (.istore 5, 2) := by decide +kernel
theorem dX1_unsureOf_6 : decode cX1_unsureOf 6 = .ok (.iload 5, 2) := by decide +kernel
theorem dX1_unsureOf_8 : decode cX1_unsureOf 8 = .ok (.bipush 64, 2) := by decide +kernel
theorem dX1_unsureOf_10 : decode cX1_unsureOf 10 = .ok (.if_icmp .ge 41, 3) := by decide +kernel
theorem dX1_unsureOf_13 : decode cX1_unsureOf 13 = .ok (.lload_n 1, 1) := by decide +kernel
theorem dX1_unsureOf_14 : decode cX1_unsureOf 14 = .ok (.iload 5, 2) := by decide +kernel
theorem dX1_unsureOf_16 : decode cX1_unsureOf 16 = .ok (.invokestatic 62, 3) := by decide +kernel
theorem dX1_unsureOf_19 : decode cX1_unsureOf 19 = .ok (.ifCond .eq 26, 3) := by decide +kernel
theorem dX1_unsureOf_22 : decode cX1_unsureOf 22 = .ok (.aload_n 0, 1) := by decide +kernel
theorem dX1_unsureOf_23 : decode cX1_unsureOf 23 = .ok (.getfield 12, 3) := by decide +kernel
theorem dX1_unsureOf_26 : decode cX1_unsureOf 26 = .ok (.getfield 98, 3) := by decide +kernel
theorem dX1_unsureOf_29 : decode cX1_unsureOf 29 = .ok (.iload_n 3, 1) := by decide +kernel
theorem dX1_unsureOf_30 : decode cX1_unsureOf 30 = .ok (.bipush 64, 2) := by decide +kernel
theorem dX1_unsureOf_32 : decode cX1_unsureOf 32 = .ok (.imul, 1) := by decide +kernel
theorem dX1_unsureOf_33 : decode cX1_unsureOf 33 = .ok (.iload 5, 2) := by decide +kernel
theorem dX1_unsureOf_35 : decode cX1_unsureOf 35 = .ok (.iadd, 1) := by decide +kernel
theorem dX1_unsureOf_36 : decode cX1_unsureOf 36 = .ok (.iaload, 1) := by decide +kernel
theorem dX1_unsureOf_37 : decode cX1_unsureOf 37 = .ok (.ldc 66, 2) := by decide +kernel
theorem dX1_unsureOf_39 : decode cX1_unsureOf 39 = .ok (.if_icmp .lt 6, 3) := by decide +kernel
theorem dX1_unsureOf_42 : decode cX1_unsureOf 42 = .ok (.iinc 4 1, 3) := by decide +kernel
theorem dX1_unsureOf_45 : decode cX1_unsureOf 45 = .ok (.iinc 5 1, 3) := by decide +kernel
theorem dX1_unsureOf_48 : decode cX1_unsureOf 48 = .ok (.goto (-42), 3) := by decide +kernel
theorem dX1_unsureOf_51 : decode cX1_unsureOf 51 = .ok (.iload 4, 2) := by decide +kernel
theorem dX1_unsureOf_53 : decode cX1_unsureOf 53 = .ok (.ireturn, 1) := by decide +kernel
theorem dX5_init_0 : decode cX5_init 0 = .ok (.aload_n 0, 1) := by decide +kernel
theorem dX5_init_1 : decode cX5_init 1 = .ok (.invokespecial 5, 3) := by decide +kernel
theorem dX5_init_4 : decode cX5_init 4 = .ok (.aload_n 0, 1) := by decide +kernel
theorem dX5_init_5 : decode cX5_init 5 = .ok (.bipush 12, 2) := by decide +kernel
theorem dX5_init_7 : decode cX5_init 7 = .ok (.newarray .int, 2) := by decide +kernel
theorem dX5_init_9 : decode cX5_init 9 = .ok (.putfield 11, 3) := by decide +kernel
theorem dX5_init_12 : decode cX5_init 12 = .ok (.aload_n 0, 1) := by decide +kernel
theorem dX5_init_13 : decode cX5_init 13 = .ok (.sipush 3000, 3) := by decide +kernel
theorem dX5_init_16 : decode cX5_init 16 = .ok (.newarray .long, 2) := by decide +kernel
theorem dX5_init_18 : decode cX5_init 18 = .ok (.putfield 15, 3) := by decide +kernel
theorem dX5_init_21 : decode cX5_init 21 = .ok (.aload_n 0, 1) := by decide +kernel
theorem dX5_init_22 : decode cX5_init 22 = .ok (.sipush 3000, 3) := by decide +kernel
theorem dX5_init_25 : decode cX5_init 25 = .ok (.newarray .int, 2) := by decide +kernel
theorem dX5_init_27 : decode cX5_init 27 = .ok (.putfield 19, 3) := by decide +kernel
theorem dX5_init_30 : decode cX5_init 30 = .ok (.aload_n 0, 1) := by decide +kernel
theorem dX5_init_31 : decode cX5_init 31 = .ok (.sipush 3000, 3) := by decide +kernel
theorem dX5_init_34 : decode cX5_init 34 = .ok (.newarray .int, 2) := by decide +kernel
theorem dX5_init_36 : decode cX5_init 36 = .ok (.putfield 22, 3) := by decide +kernel
theorem dX5_init_39 : decode cX5_init 39 = .ok (.aload_n 0, 1) := by decide +kernel
theorem dX5_init_40 : decode cX5_init 40 = .ok (.sipush 4096, 3) := by decide +kernel
theorem dX5_init_43 : decode cX5_init 43 = .ok (.newarray .int, 2) := by decide +kernel
theorem dX5_init_45 : decode cX5_init 45 = .ok (.putfield 25, 3) := by decide +kernel
theorem dX5_init_48 : decode cX5_init 48 = .ok (.return_, 1) := by decide +kernel
theorem dX5_shortest_0 : decode cX5_shortest 0 = .ok (.aload_n 0, 1) := by decide +kernel
theorem dX5_shortest_1 : decode cX5_shortest 1 = .ok (.getfield 28, 3) := by decide +kernel
theorem dX5_shortest_4 : decode cX5_shortest 4 = .ok (.ifCond .eq 37, 3) := by decide +kernel
theorem dX5_shortest_7 : decode cX5_shortest 7 = .ok (.aload_n 0, 1) := by decide +kernel
theorem dX5_shortest_8 : decode cX5_shortest 8 = .ok (.getfield 32, 3) := by decide +kernel
theorem dX5_shortest_11 : decode cX5_shortest 11 = .ok (.lload_n 2, 1) := by decide +kernel
theorem dX5_shortest_12 : decode cX5_shortest 12 = .ok (.lcmp, 1) := by decide +kernel
theorem dX5_shortest_13 : decode cX5_shortest 13 = .ok (.ifCond .ne 28, 3) := by decide +kernel
theorem dX5_shortest_16 : decode cX5_shortest 16 = .ok (.aload_n 0, 1) := by decide +kernel
theorem dX5_shortest_17 : decode cX5_shortest 17 = .ok (.getfield 36, 3) := by decide +kernel
theorem dX5_shortest_20 : decode cX5_shortest 20 = .ok (.iload 4, 2) := by decide +kernel
theorem dX5_shortest_22 : decode cX5_shortest 22 = .ok (.if_icmp .ne 19, 3) := by decide +kernel
theorem dX5_shortest_25 : decode cX5_shortest 25 = .ok (.aload_n 0, 1) := by decide +kernel
theorem dX5_shortest_26 : decode cX5_shortest 26 = .ok (.getfield 40, 3) := by decide +kernel
theorem dX5_shortest_29 : decode cX5_shortest 29 = .ok (.aload_n 1, 1) := by decide +kernel
theorem dX5_shortest_30 : decode cX5_shortest 30 = .ok (.getfield 43, 3) := by decide +kernel
theorem dX5_shortest_33 : decode cX5_shortest 33 = .ok (.if_icmp .ne 8, 3) := by decide +kernel
theorem dX5_shortest_36 : decode cX5_shortest 36 = .ok (.aload_n 0, 1) := by decide +kernel
theorem dX5_shortest_37 : decode cX5_shortest 37 = .ok (.getfield 48, 3) := by decide +kernel
theorem dX5_shortest_40 : decode cX5_shortest 40 = .ok (.ireturn, 1) := by decide +kernel
theorem dX5_shortest_41 : decode cX5_shortest 41 = .ok (.aload_n 0, 1) := by decide +kernel
theorem dX5_shortest_42 : decode cX5_shortest 42 = .ok (.iconst 1, 1) := by decide +kernel
theorem dX5_shortest_43 : decode cX5_shortest 43 = .ok (.putfield 28, 3) := by decide +kernel
theorem dX5_shortest_46 : decode cX5_shortest 46 = .ok (.aload_n 0, 1) := by decide +kernel
theorem dX5_shortest_47 : decode cX5_shortest 47 = .ok (.lload_n 2, 1) := by decide +kernel
theorem dX5_shortest_48 : decode cX5_shortest 48 = .ok (.putfield 32, 3) := by decide +kernel
theorem dX5_shortest_51 : decode cX5_shortest 51 = .ok (.aload_n 0, 1) := by decide +kernel
theorem dX5_shortest_52 : decode cX5_shortest 52 = .ok (.iload 4, 2) := by decide +kernel
theorem dX5_shortest_54 : decode cX5_shortest 54 = .ok (.putfield 36, 3) := by decide +kernel
theorem dX5_shortest_57 : decode cX5_shortest 57 = .ok (.aload_n 0, 1) := by decide +kernel
theorem dX5_shortest_58 : decode cX5_shortest 58 = .ok (.aload_n 1, 1) := by decide +kernel
theorem dX5_shortest_59 : decode cX5_shortest 59 = .ok (.getfield 43, 3) := by decide +kernel
theorem dX5_shortest_62 : decode cX5_shortest 62 = .ok (.putfield 40, 3) := by decide +kernel
theorem dX5_shortest_65 : decode cX5_shortest 65 = .ok (.aload_n 0, 1) := by decide +kernel
theorem dX5_shortest_66 : decode cX5_shortest 66 = .ok (.aload_n 1, 1) := by decide +kernel
theorem dX5_shortest_67 : decode cX5_shortest 67 = .ok (.lload_n 2, 1) := by decide +kernel
theorem dX5_shortest_68 : decode cX5_shortest 68 = .ok (.invokevirtual 51, 3) := by decide +kernel
theorem dX5_shortest_71 : decode cX5_shortest 71 = .ok (.ifCond .eq 7, 3) := by decide +kernel
theorem dX5_shortest_74 : decode cX5_shortest 74 = .ok (.iconst 0, 1) := by decide +kernel
theorem dX5_shortest_75 : decode cX5_shortest 75 = .ok (.goto 11, 3) := by decide +kernel
theorem dX5_shortest_78 : decode cX5_shortest 78 = .ok (.aload_n 0, 1) := by decide +kernel
theorem dX5_shortest_79 : decode cX5_shortest 79 = .ok (.aload_n 1, 1) := by decide +kernel
theorem dX5_shortest_80 : decode cX5_shortest 80 = .ok (.lload_n 2, 1) := by decide +kernel
theorem dX5_shortest_81 : decode cX5_shortest 81 = .ok (.iload 4, 2) := by decide +kernel
theorem dX5_shortest_83 : decode cX5_shortest 83 = .ok (.invokevirtual 55, 3) := by decide +kernel
theorem dX5_shortest_86 : decode cX5_shortest 86 = .ok (.putfield 48, 3) := by decide +kernel
theorem dX5_shortest_89 : decode cX5_shortest 89 = .ok (.aload_n 0, 1) := by decide +kernel
theorem dX5_shortest_90 : decode cX5_shortest 90 = .ok (.getfield 48, 3) := by decide +kernel
theorem dX5_shortest_93 : decode cX5_shortest 93 = .ok (.ireturn, 1) := by decide +kernel
theorem dX5_lookThrough_0 : decode cX5_lookThrough 0 = .ok (.aload_n 0, 1) := by decide +kernel
theorem dX5_lookThrough_1 : decode cX5_lookThrough 1 = .ok (.getfield 25, 3) := by decide +kernel
theorem dX5_lookThrough_4 : decode cX5_lookThrough 4 = .ok (.iconst 0, 1) := by decide +kernel
theorem dX5_lookThrough_5 : decode cX5_lookThrough 5 = .ok (.invokestatic 59, 3) := by decide +kernel
theorem dX5_lookThrough_8 : decode cX5_lookThrough 8 = .ok (.aload_n 0, 1) := by decide +kernel
theorem dX5_lookThrough_9 : decode cX5_lookThrough 9 = .ok (.iconst 0, 1) := by decide +kernel
theorem dX5_lookThrough_10 : decode cX5_lookThrough 10 = .ok (.putfield 65, 3) := by decide +kernel
theorem dX5_lookThrough_13 : decode cX5_lookThrough 13 = .ok (.aload_n 0, 1) := by decide +kernel
theorem dX5_lookThrough_14 : decode cX5_lookThrough 14 = .ok (.lload_n 2, 1) := by decide +kernel
theorem dX5_lookThrough_15 : decode cX5_lookThrough 15 = .ok (.iload 4, 2) := by decide +kernel
theorem dX5_lookThrough_17 : decode cX5_lookThrough 17 = .ok (.iconst 0, 1) := by decide +kernel
theorem dX5_lookThrough_18 : decode cX5_lookThrough 18 = .ok (.invokevirtual 68, 3) := by decide +kernel
theorem dX5_lookThrough_21 : decode cX5_lookThrough 21 = .ok (.pop, 1) := by decide +kernel
theorem dX5_lookThrough_22 : decode cX5_lookThrough 22 = .ok (.iconst 0, 1) := by decide +kernel
theorem dX5_lookThrough_23 : decode cX5_lookThrough 23 = .ok (.istore 5, 2) := by decide +kernel
theorem dX5_lookThrough_25 : decode cX5_lookThrough 25 = .ok (.iconst 0, 1) := by decide +kernel
theorem dX5_lookThrough_26 : decode cX5_lookThrough 26 = .ok (.istore 6, 2) := by decide +kernel
theorem dX5_lookThrough_28 : decode cX5_lookThrough 28 = .ok (.iload 6, 2) := by decide +kernel
theorem dX5_lookThrough_30 : decode cX5_lookThrough 30 = .ok (.bipush 12, 2) := by decide +kernel
theorem dX5_lookThrough_32 : decode cX5_lookThrough 32 = .ok (.if_icmp .ge 68, 3) := by decide +kernel
theorem dX5_lookThrough_35 : decode cX5_lookThrough 35 = .ok (.aload_n 0, 1) := by decide +kernel
theorem dX5_lookThrough_36 : decode cX5_lookThrough 36 = .ok (.getfield 65, 3) := by decide +kernel
theorem dX5_lookThrough_39 : decode cX5_lookThrough 39 = .ok (.istore 7, 2) := by decide +kernel
theorem dX5_lookThrough_41 : decode cX5_lookThrough 41 = .ok (.iload 5, 2) := by decide +kernel
theorem dX5_lookThrough_43 : decode cX5_lookThrough 43 = .ok (.istore 8, 2) := by decide +kernel
theorem dX5_lookThrough_45 : decode cX5_lookThrough 45 = .ok (.iload 8, 2) := by decide +kernel
theorem dX5_lookThrough_47 : decode cX5_lookThrough 47 = .ok (.iload 7, 2) := by decide +kernel
theorem dX5_lookThrough_49 : decode cX5_lookThrough 49 = .ok (.if_icmp .ge 41, 3) := by decide +kernel
theorem dX5_lookThrough_52 : decode cX5_lookThrough 52 = .ok (.aload_n 0, 1) := by decide +kernel
theorem dX5_lookThrough_53 : decode cX5_lookThrough 53 = .ok (.aload_n 1, 1) := by decide +kernel
theorem dX5_lookThrough_54 : decode cX5_lookThrough 54 = .ok (.iload 8, 2) := by decide +kernel
theorem dX5_lookThrough_56 : decode cX5_lookThrough 56 = .ok (.iload 6, 2) := by decide +kernel
theorem dX5_lookThrough_58 : decode cX5_lookThrough 58 = .ok (.invokevirtual 72, 3) := by decide +kernel
theorem dX5_lookThrough_61 : decode cX5_lookThrough 61 = .ok (.istore 9, 2) := by decide +kernel
theorem dX5_lookThrough_63 : decode cX5_lookThrough 63 = .ok (.iload 9, 2) := by decide +kernel
theorem dX5_lookThrough_65 : decode cX5_lookThrough 65 = .ok (.ifCond .eq 19, 3) := by decide +kernel
theorem dX5_lookThrough_68 : decode cX5_lookThrough 68 = .ok (.iload 9, 2) := by decide +kernel
theorem dX5_lookThrough_70 : decode cX5_lookThrough 70 = .ok (.iconst 1, 1) := by decide +kernel
theorem dX5_lookThrough_71 : decode cX5_lookThrough 71 = .ok (.if_icmp .ne 10, 3) := by decide +kernel
theorem dX5_lookThrough_74 : decode cX5_lookThrough 74 = .ok (.iload 6, 2) := by decide +kernel
theorem dX5_lookThrough_76 : decode cX5_lookThrough 76 = .ok (.iconst 1, 1) := by decide +kernel
theorem dX5_lookThrough_77 : decode cX5_lookThrough 77 = .ok (.iadd, 1) := by decide +kernel
theorem dX5_lookThrough_78 : decode cX5_lookThrough 78 = .ok (.goto 5, 3) := by decide +kernel
theorem dX5_lookThrough_81 : decode cX5_lookThrough 81 = .ok (.bipush (-2), 2) := by decide +kernel
theorem dX5_lookThrough_83 : decode cX5_lookThrough 83 = .ok (.ireturn, 1) := by decide +kernel
theorem dX5_lookThrough_84 : decode cX5_lookThrough 84 = .ok (.iinc 8 1, 3) := by decide +kernel
theorem dX5_lookThrough_87 : decode cX5_lookThrough 87 = .ok (.goto (-42), 3) := by decide +kernel
theorem dX5_lookThrough_90 : decode cX5_lookThrough 90 = .ok (.iload 7, 2) := by decide +kernel
theorem dX5_lookThrough_92 : decode cX5_lookThrough 92 = .ok (.istore 5, 2) := by decide +kernel
theorem dX5_lookThrough_94 : decode cX5_lookThrough 94 = .ok (.iinc 6 1, 3) := by decide +kernel
theorem dX5_lookThrough_97 : decode cX5_lookThrough 97 = .ok (.goto (-69), 3) := by decide +kernel
theorem dX5_lookThrough_100 : decode cX5_lookThrough 100 = .ok (.iconst (-1), 1) := by decide +kernel
theorem dX5_lookThrough_101 : decode cX5_lookThrough 101 = .ok (.ireturn, 1) := by decide +kernel
theorem dX5_goOn_0 : decode cX5_goOn 0 = .ok (.aload_n 0, 1) := by decide +kernel
theorem dX5_goOn_1 : decode cX5_goOn 1 = .ok (.getfield 19, 3) := by decide +kernel
theorem dX5_goOn_4 : decode cX5_goOn 4 = .ok (.iload_n 2, 1) := by decide +kernel
theorem dX5_goOn_5 : decode cX5_goOn 5 = .ok (.iaload, 1) := by decide +kernel
theorem dX5_goOn_6 : decode cX5_goOn 6 = .ok (.istore 4, 2) := by decide +kernel
theorem dX5_goOn_8 : decode cX5_goOn 8 = .ok (.iload 4, 2) := by decide +kernel
theorem dX5_goOn_10 : decode cX5_goOn 10 = .ok (.iconst 1, 1) := by decide +kernel
theorem dX5_goOn_11 : decode cX5_goOn 11 = .ok (.iadd, 1) := by decide +kernel
theorem dX5_goOn_12 : decode cX5_goOn 12 = .ok (.bipush 6, 2) := by decide +kernel
theorem dX5_goOn_14 : decode cX5_goOn 14 = .ok (.irem, 1) := by decide +kernel
theorem dX5_goOn_15 : decode cX5_goOn 15 = .ok (.istore 5, 2) := by decide +kernel
theorem dX5_goOn_17 : decode cX5_goOn 17 = .ok (.iload_n 3, 1) := by decide +kernel
theorem dX5_goOn_18 : decode cX5_goOn 18 = .ok (.iconst 1, 1) := by decide +kernel
theorem dX5_goOn_19 : decode cX5_goOn 19 = .ok (.iadd, 1) := by decide +kernel
theorem dX5_goOn_20 : decode cX5_goOn 20 = .ok (.bipush 12, 2) := by decide +kernel
theorem dX5_goOn_22 : decode cX5_goOn 22 = .ok (.if_icmp .ge 7, 3) := by decide +kernel
theorem dX5_goOn_25 : decode cX5_goOn 25 = .ok (.iconst 1, 1) := by decide +kernel
theorem dX5_goOn_26 : decode cX5_goOn 26 = .ok (.goto 4, 3) := by decide +kernel
theorem dX5_goOn_29 : decode cX5_goOn 29 = .ok (.iconst 0, 1) := by decide +kernel
theorem dX5_goOn_30 : decode cX5_goOn 30 = .ok (.istore 6, 2) := by decide +kernel
theorem dX5_goOn_32 : decode cX5_goOn 32 = .ok (.aload_n 1, 1) := by decide +kernel
theorem dX5_goOn_33 : decode cX5_goOn 33 = .ok (.aload_n 0, 1) := by decide +kernel
theorem dX5_goOn_34 : decode cX5_goOn 34 = .ok (.getfield 15, 3) := by decide +kernel
theorem dX5_goOn_37 : decode cX5_goOn 37 = .ok (.iload_n 2, 1) := by decide +kernel
theorem dX5_goOn_38 : decode cX5_goOn 38 = .ok (.laload, 1) := by decide +kernel
theorem dX5_goOn_39 : decode cX5_goOn 39 = .ok (.invokevirtual 76, 3) := by decide +kernel
theorem dX5_goOn_42 : decode cX5_goOn 42 = .ok (.iconst 0, 1) := by decide +kernel
theorem dX5_goOn_43 : decode cX5_goOn 43 = .ok (.istore 7, 2) := by decide +kernel
theorem dX5_goOn_45 : decode cX5_goOn 45 = .ok (.iload 7, 2) := by decide +kernel
theorem dX5_goOn_47 : decode cX5_goOn 47 = .ok (.bipush 9, 2) := by decide +kernel
theorem dX5_goOn_49 : decode cX5_goOn 49 = .ok (.if_icmp .ge 64, 3) := by decide +kernel
theorem dX5_goOn_52 : decode cX5_goOn 52 = .ok (.aload_n 1, 1) := by decide +kernel
theorem dX5_goOn_53 : decode cX5_goOn 53 = .ok (.iload 7, 2) := by decide +kernel
theorem dX5_goOn_55 : decode cX5_goOn 55 = .ok (.iload 4, 2) := by decide +kernel
theorem dX5_goOn_57 : decode cX5_goOn 57 = .ok (.invokevirtual 80, 3) := by decide +kernel
theorem dX5_goOn_60 : decode cX5_goOn 60 = .ok (.lstore 8, 2) := by decide +kernel
theorem dX5_goOn_62 : decode cX5_goOn 62 = .ok (.aload_n 1, 1) := by decide +kernel
theorem dX5_goOn_63 : decode cX5_goOn 63 = .ok (.lload 8, 2) := by decide +kernel
theorem dX5_goOn_65 : decode cX5_goOn 65 = .ok (.invokevirtual 51, 3) := by decide +kernel
theorem dX5_goOn_68 : decode cX5_goOn 68 = .ok (.ifCond .eq 13, 3) := by decide +kernel
theorem dX5_goOn_71 : decode cX5_goOn 71 = .ok (.aload_n 0, 1) := by decide +kernel
theorem dX5_goOn_72 : decode cX5_goOn 72 = .ok (.iload_n 2, 1) := by decide +kernel
theorem dX5_goOn_73 : decode cX5_goOn 73 = .ok (.iload 7, 2) := by decide +kernel
theorem dX5_goOn_75 : decode cX5_goOn 75 = .ok (.iload_n 3, 1) := by decide +kernel
theorem dX5_goOn_76 : decode cX5_goOn 76 = .ok (.invokevirtual 84, 3) := by decide +kernel
theorem dX5_goOn_79 : decode cX5_goOn 79 = .ok (.iconst 1, 1) := by decide +kernel
theorem dX5_goOn_80 : decode cX5_goOn 80 = .ok (.ireturn, 1) := by decide +kernel
theorem dX5_goOn_81 : decode cX5_goOn 81 = .ok (.iload 6, 2) := by decide +kernel
theorem dX5_goOn_83 : decode cX5_goOn 83 = .ok (.ifCond .eq 24, 3) := by decide +kernel
theorem dX5_goOn_86 : decode cX5_goOn 86 = .ok (.aload_n 0, 1) := by decide +kernel
theorem dX5_goOn_87 : decode cX5_goOn 87 = .ok (.lload 8, 2) := by decide +kernel
theorem dX5_goOn_89 : decode cX5_goOn 89 = .ok (.iload 5, 2) := by decide +kernel
theorem dX5_goOn_91 : decode cX5_goOn 91 = .ok (.iload_n 2, 1) := by decide +kernel
theorem dX5_goOn_92 : decode cX5_goOn 92 = .ok (.bipush 9, 2) := by decide +kernel
theorem dX5_goOn_94 : decode cX5_goOn 94 = .ok (.imul, 1) := by decide +kernel
theorem dX5_goOn_95 : decode cX5_goOn 95 = .ok (.iload 7, 2) := by decide +kernel
theorem dX5_goOn_97 : decode cX5_goOn 97 = .ok (.iadd, 1) := by decide +kernel
theorem dX5_goOn_98 : decode cX5_goOn 98 = .ok (.invokevirtual 68, 3) := by decide +kernel
theorem dX5_goOn_101 : decode cX5_goOn 101 = .ok (.ifCond .ne 6, 3) := by decide +kernel
theorem dX5_goOn_104 : decode cX5_goOn 104 = .ok (.bipush (-2), 2) := by decide +kernel
theorem dX5_goOn_106 : decode cX5_goOn 106 = .ok (.ireturn, 1) := by decide +kernel
theorem dX5_goOn_107 : decode cX5_goOn 107 = .ok (.iinc 7 1, 3) := by decide +kernel
theorem dX5_goOn_110 : decode cX5_goOn 110 = .ok (.goto (-65), 3) := by decide +kernel
theorem dX5_goOn_113 : decode cX5_goOn 113 = .ok (.iconst 0, 1) := by decide +kernel
theorem dX5_goOn_114 : decode cX5_goOn 114 = .ok (.ireturn, 1) := by decide +kernel
theorem dX5_keepNew_0 : decode cX5_keepNew 0 = .ok (.lload_n 1, 1) := by decide +kernel
theorem dX5_keepNew_1 : decode cX5_keepNew 1 = .ok (.iload_n 3, 1) := by decide +kernel
theorem dX5_keepNew_2 : decode cX5_keepNew 2 = .ok (.i2l, 1) := by decide +kernel
theorem dX5_keepNew_3 : decode cX5_keepNew 3 = .ok (.ladd, 1) := by decide +kernel
theorem dX5_keepNew_4 : decode cX5_keepNew 4 = .ok (.ldc2_w 88, 3) := by decide +kernel
theorem dX5_keepNew_7 : decode cX5_keepNew 7 = .ok (.lmul, 1) := by decide +kernel
theorem dX5_keepNew_8 : decode cX5_keepNew 8 = .ok (.bipush 52, 2) := by decide +kernel
theorem dX5_keepNew_10 : decode cX5_keepNew 10 = .ok (.lushr, 1) := by decide +kernel
theorem dX5_keepNew_11 : decode cX5_keepNew 11 = .ok (.l2i, 1) := by decide +kernel
theorem dX5_keepNew_12 : decode cX5_keepNew 12 = .ok (.istore 5, 2) := by decide +kernel
theorem dX5_keepNew_14 : decode cX5_keepNew 14 = .ok (.iconst 0, 1) := by decide +kernel
theorem dX5_keepNew_15 : decode cX5_keepNew 15 = .ok (.istore 6, 2) := by decide +kernel
theorem dX5_keepNew_17 : decode cX5_keepNew 17 = .ok (.iload 6, 2) := by decide +kernel
theorem dX5_keepNew_19 : decode cX5_keepNew 19 = .ok (.sipush 4096, 3) := by decide +kernel
theorem dX5_keepNew_22 : decode cX5_keepNew 22 = .ok (.if_icmp .ge 72, 3) := by decide +kernel
theorem dX5_keepNew_25 : decode cX5_keepNew 25 = .ok (.iload 5, 2) := by decide +kernel
theorem dX5_keepNew_27 : decode cX5_keepNew 27 = .ok (.iload 6, 2) := by decide +kernel
theorem dX5_keepNew_29 : decode cX5_keepNew 29 = .ok (.iadd, 1) := by decide +kernel
theorem dX5_keepNew_30 : decode cX5_keepNew 30 = .ok (.sipush 4095, 3) := by decide +kernel
theorem dX5_keepNew_33 : decode cX5_keepNew 33 = .ok (.iand, 1) := by decide +kernel
theorem dX5_keepNew_34 : decode cX5_keepNew 34 = .ok (.istore 7, 2) := by decide +kernel
theorem dX5_keepNew_36 : decode cX5_keepNew 36 = .ok (.aload_n 0, 1) := by decide +kernel
theorem dX5_keepNew_37 : decode cX5_keepNew 37 = .ok (.getfield 25, 3) := by decide +kernel
theorem dX5_keepNew_40 : decode cX5_keepNew 40 = .ok (.iload 7, 2) := by decide +kernel
theorem dX5_keepNew_42 : decode cX5_keepNew 42 = .ok (.iaload, 1) := by decide +kernel
theorem dX5_keepNew_43 : decode cX5_keepNew 43 = .ok (.iconst 1, 1) := by decide +kernel
theorem dX5_keepNew_44 : decode cX5_keepNew 44 = .ok (.isub, 1) := by decide +kernel
theorem dX5_keepNew_45 : decode cX5_keepNew 45 = .ok (.istore 8, 2) := by decide +kernel
theorem dX5_keepNew_47 : decode cX5_keepNew 47 = .ok (.iload 8, 2) := by decide +kernel
theorem dX5_keepNew_49 : decode cX5_keepNew 49 = .ok (.ifCond .ge 14, 3) := by decide +kernel
theorem dX5_keepNew_52 : decode cX5_keepNew 52 = .ok (.aload_n 0, 1) := by decide +kernel
theorem dX5_keepNew_53 : decode cX5_keepNew 53 = .ok (.iload 7, 2) := by decide +kernel
theorem dX5_keepNew_55 : decode cX5_keepNew 55 = .ok (.lload_n 1, 1) := by decide +kernel
theorem dX5_keepNew_56 : decode cX5_keepNew 56 = .ok (.iload_n 3, 1) := by decide +kernel
theorem dX5_keepNew_57 : decode cX5_keepNew 57 = .ok (.iload 4, 2) := by decide +kernel
theorem dX5_keepNew_59 : decode cX5_keepNew 59 = .ok (.invokevirtual 90, 3) := by decide +kernel
theorem dX5_keepNew_62 : decode cX5_keepNew 62 = .ok (.ireturn, 1) := by decide +kernel
theorem dX5_keepNew_63 : decode cX5_keepNew 63 = .ok (.aload_n 0, 1) := by decide +kernel
theorem dX5_keepNew_64 : decode cX5_keepNew 64 = .ok (.getfield 15, 3) := by decide +kernel
theorem dX5_keepNew_67 : decode cX5_keepNew 67 = .ok (.iload 8, 2) := by decide +kernel
theorem dX5_keepNew_69 : decode cX5_keepNew 69 = .ok (.laload, 1) := by decide +kernel
theorem dX5_keepNew_70 : decode cX5_keepNew 70 = .ok (.lload_n 1, 1) := by decide +kernel
theorem dX5_keepNew_71 : decode cX5_keepNew 71 = .ok (.lcmp, 1) := by decide +kernel
theorem dX5_keepNew_72 : decode cX5_keepNew 72 = .ok (.ifCond .ne 16, 3) := by decide +kernel
theorem dX5_keepNew_75 : decode cX5_keepNew 75 = .ok (.aload_n 0, 1) := by decide +kernel
theorem dX5_keepNew_76 : decode cX5_keepNew 76 = .ok (.getfield 19, 3) := by decide +kernel
theorem dX5_keepNew_79 : decode cX5_keepNew 79 = .ok (.iload 8, 2) := by decide +kernel
theorem dX5_keepNew_81 : decode cX5_keepNew 81 = .ok (.iaload, 1) := by decide +kernel
theorem dX5_keepNew_82 : decode cX5_keepNew 82 = .ok (.iload_n 3, 1) := by decide +kernel
theorem dX5_keepNew_83 : decode cX5_keepNew 83 = .ok (.if_icmp .ne 5, 3) := by decide +kernel
theorem dX5_keepNew_86 : decode cX5_keepNew 86 = .ok (.iconst 1, 1) := by decide +kernel
theorem dX5_keepNew_87 : decode cX5_keepNew 87 = .ok (.ireturn, 1) := by decide +kernel
theorem dX5_keepNew_88 : decode cX5_keepNew 88 = .ok (.iinc 6 1, 3) := by decide +kernel
theorem dX5_keepNew_91 : decode cX5_keepNew 91 = .ok (.goto (-74), 3) := by decide +kernel
theorem dX5_keepNew_94 : decode cX5_keepNew 94 = .ok (.iconst 0, 1) := by decide +kernel
theorem dX5_keepNew_95 : decode cX5_keepNew 95 = .ok (.ireturn, 1) := by decide +kernel
theorem dX5_keepAt_0 : decode cX5_keepAt 0 = .ok (.aload_n 0, 1) := by decide +kernel
theorem dX5_keepAt_1 : decode cX5_keepAt 1 = .ok (.getfield 65, 3) := by decide +kernel
theorem dX5_keepAt_4 : decode cX5_keepAt 4 = .ok (.sipush 3000, 3) := by decide +kernel
theorem dX5_keepAt_7 : decode cX5_keepAt 7 = .ok (.if_icmp .lt 5, 3) := by decide +kernel
theorem dX5_keepAt_10 : decode cX5_keepAt 10 = .ok (.iconst 0, 1) := by decide +kernel
theorem dX5_keepAt_11 : decode cX5_keepAt 11 = .ok (.ireturn, 1) := by decide +kernel
theorem dX5_keepAt_12 : decode cX5_keepAt 12 = .ok (.aload_n 0, 1) := by decide +kernel
theorem dX5_keepAt_13 : decode cX5_keepAt 13 = .ok (.getfield 15, 3) := by decide +kernel
theorem dX5_keepAt_16 : decode cX5_keepAt 16 = .ok (.aload_n 0, 1) := by decide +kernel
theorem dX5_keepAt_17 : decode cX5_keepAt 17 = .ok (.getfield 65, 3) := by decide +kernel
theorem dX5_keepAt_20 : decode cX5_keepAt 20 = .ok (.lload_n 2, 1) := by decide +kernel
theorem dX5_keepAt_21 : decode cX5_keepAt 21 = .ok (.lastore, 1) := by decide +kernel
theorem dX5_keepAt_22 : decode cX5_keepAt 22 = .ok (.aload_n 0, 1) := by decide +kernel
theorem dX5_keepAt_23 : decode cX5_keepAt 23 = .ok (.getfield 19, 3) := by decide +kernel
theorem dX5_keepAt_26 : decode cX5_keepAt 26 = .ok (.aload_n 0, 1) := by decide +kernel
theorem dX5_keepAt_27 : decode cX5_keepAt 27 = .ok (.getfield 65, 3) := by decide +kernel
theorem dX5_keepAt_30 : decode cX5_keepAt 30 = .ok (.iload 4, 2) := by decide +kernel
theorem dX5_keepAt_32 : decode cX5_keepAt 32 = .ok (.iastore, 1) := by decide +kernel
theorem dX5_keepAt_33 : decode cX5_keepAt 33 = .ok (.aload_n 0, 1) := by decide +kernel
theorem dX5_keepAt_34 : decode cX5_keepAt 34 = .ok (.getfield 22, 3) := by decide +kernel
theorem dX5_keepAt_37 : decode cX5_keepAt 37 = .ok (.aload_n 0, 1) := by decide +kernel
theorem dX5_keepAt_38 : decode cX5_keepAt 38 = .ok (.getfield 65, 3) := by decide +kernel
theorem dX5_keepAt_41 : decode cX5_keepAt 41 = .ok (.iload 5, 2) := by decide +kernel
theorem dX5_keepAt_43 : decode cX5_keepAt 43 = .ok (.iastore, 1) := by decide +kernel
theorem dX5_keepAt_44 : decode cX5_keepAt 44 = .ok (.aload_n 0, 1) := by decide +kernel
theorem dX5_keepAt_45 : decode cX5_keepAt 45 = .ok (.dup, 1) := by decide +kernel
theorem dX5_keepAt_46 : decode cX5_keepAt 46 = .ok (.getfield 65, 3) := by decide +kernel
theorem dX5_keepAt_49 : decode cX5_keepAt 49 = .ok (.iconst 1, 1) := by decide +kernel
theorem dX5_keepAt_50 : decode cX5_keepAt 50 = .ok (.iadd, 1) := by decide +kernel
theorem dX5_keepAt_51 : decode cX5_keepAt 51 = .ok (.putfield 65, 3) := by decide +kernel
theorem dX5_keepAt_54 : decode cX5_keepAt 54 = .ok (.aload_n 0, 1) := by decide +kernel
theorem dX5_keepAt_55 : decode cX5_keepAt 55 = .ok (.getfield 25, 3) := by decide +kernel
theorem dX5_keepAt_58 : decode cX5_keepAt 58 = .ok (.iload_n 1, 1) := by decide +kernel
theorem dX5_keepAt_59 : decode cX5_keepAt 59 = .ok (.aload_n 0, 1) := by decide +kernel
theorem dX5_keepAt_60 : decode cX5_keepAt 60 = .ok (.getfield 65, 3) := by decide +kernel
theorem dX5_keepAt_63 : decode cX5_keepAt 63 = .ok (.iastore, 1) := by decide +kernel
theorem dX5_keepAt_64 : decode cX5_keepAt 64 = .ok (.iconst 1, 1) := by decide +kernel
theorem dX5_keepAt_65 : decode cX5_keepAt 65 = .ok (.ireturn, 1) := by decide +kernel
theorem dX5_writeRow_0 : decode cX5_writeRow 0 = .ok (.aload_n 0, 1) := by decide +kernel
theorem dX5_writeRow_1 : decode cX5_writeRow 1 = .ok (.getfield 11, 3) := by decide +kernel
theorem dX5_writeRow_4 : decode cX5_writeRow 4 = .ok (.iload_n 3, 1) := by decide +kernel
theorem dX5_writeRow_5 : decode cX5_writeRow 5 = .ok (.iload_n 2, 1) := by decide +kernel
theorem dX5_writeRow_6 : decode cX5_writeRow 6 = .ok (.iastore, 1) := by decide +kernel
theorem dX5_writeRow_7 : decode cX5_writeRow 7 = .ok (.iload_n 1, 1) := by decide +kernel
theorem dX5_writeRow_8 : decode cX5_writeRow 8 = .ok (.istore 4, 2) := by decide +kernel
theorem dX5_writeRow_10 : decode cX5_writeRow 10 = .ok (.iload_n 3, 1) := by decide +kernel
theorem dX5_writeRow_11 : decode cX5_writeRow 11 = .ok (.iconst 1, 1) := by decide +kernel
theorem dX5_writeRow_12 : decode cX5_writeRow 12 = .ok (.isub, 1) := by decide +kernel
theorem dX5_writeRow_13 : decode cX5_writeRow 13 = .ok (.istore 5, 2) := by decide +kernel
theorem dX5_writeRow_15 : decode cX5_writeRow 15 = .ok (.iload 5, 2) := by decide +kernel
theorem dX5_writeRow_17 : decode cX5_writeRow 17 = .ok (.ifCond .lt 38, 3) := by decide +kernel
theorem dX5_writeRow_20 : decode cX5_writeRow 20 = .ok (.aload_n 0, 1) := by decide +kernel
theorem dX5_writeRow_21 : decode cX5_writeRow 21 = .ok (.getfield 11, 3) := by decide +kernel
theorem dX5_writeRow_24 : decode cX5_writeRow 24 = .ok (.iload 5, 2) := by decide +kernel
theorem dX5_writeRow_26 : decode cX5_writeRow 26 = .ok (.aload_n 0, 1) := by decide +kernel
theorem dX5_writeRow_27 : decode cX5_writeRow 27 = .ok (.getfield 22, 3) := by decide +kernel
theorem dX5_writeRow_30 : decode cX5_writeRow 30 = .ok (.iload 4, 2) := by decide +kernel
theorem dX5_writeRow_32 : decode cX5_writeRow 32 = .ok (.iaload, 1) := by decide +kernel
theorem dX5_writeRow_33 : decode cX5_writeRow 33 = .ok (.bipush 9, 2) := by decide +kernel
theorem dX5_writeRow_35 : decode cX5_writeRow 35 = .ok (.irem, 1) := by decide +kernel
theorem dX5_writeRow_36 : decode cX5_writeRow 36 = .ok (.iastore, 1) := by decide +kernel
theorem dX5_writeRow_37 : decode cX5_writeRow 37 = .ok (.aload_n 0, 1) := by decide +kernel
theorem dX5_writeRow_38 : decode cX5_writeRow 38 = .ok (.getfield 22, 3) := by decide +kernel
theorem dX5_writeRow_41 : decode cX5_writeRow 41 = .ok (.iload 4, 2) := by decide +kernel
theorem dX5_writeRow_43 : decode cX5_writeRow 43 = .ok (.iaload, 1) := by decide +kernel
theorem dX5_writeRow_44 : decode cX5_writeRow 44 = .ok (.bipush 9, 2) := by decide +kernel
theorem dX5_writeRow_46 : decode cX5_writeRow 46 = .ok (.idiv, 1) := by decide +kernel
theorem dX5_writeRow_47 : decode cX5_writeRow 47 = .ok (.istore 4, 2) := by decide +kernel
theorem dX5_writeRow_49 : decode cX5_writeRow 49 = .ok (.iinc 5 (-1), 3) := by decide +kernel
theorem dX5_writeRow_52 : decode cX5_writeRow 52 = .ok (.goto (-37), 3) := by decide +kernel
theorem dX5_writeRow_55 : decode cX5_writeRow 55 = .ok (.return_, 1) := by decide +kernel
theorem dX6_init_0 : decode cX6_init 0 = .ok (.aload_n 0, 1) := by decide +kernel
theorem dX6_init_1 : decode cX6_init 1 = .ok (.invokespecial 3, 3) := by decide +kernel
theorem dX6_init_4 : decode cX6_init 4 = .ok (.aload_n 0, 1) := by decide +kernel
theorem dX6_init_5 : decode cX6_init 5 = .ok (.new 9, 3) := by decide +kernel
theorem dX6_init_8 : decode cX6_init 8 = .ok (.dup, 1) := by decide +kernel
theorem dX6_init_9 : decode cX6_init 9 = .ok (.invokespecial 11, 3) := by decide +kernel
theorem dX6_init_12 : decode cX6_init 12 = .ok (.putfield 12, 3) := by decide +kernel
theorem dX6_init_15 : decode cX6_init 15 = .ok (.aload_n 0, 1) := by decide +kernel
theorem dX6_init_16 : decode cX6_init 16 = .ok (.new 16, 3) := by decide +kernel
theorem dX6_init_19 : decode cX6_init 19 = .ok (.dup, 1) := by decide +kernel
theorem dX6_init_20 : decode cX6_init 20 = .ok (.invokespecial 18, 3) := by decide +kernel
theorem dX6_init_23 : decode cX6_init 23 = .ok (.putfield 19, 3) := by decide +kernel
theorem dX6_init_26 : decode cX6_init 26 = .ok (.aload_n 0, 1) := by decide +kernel
theorem dX6_init_27 : decode cX6_init 27 = .ok (.new 23, 3) := by decide +kernel
theorem dX6_init_30 : decode cX6_init 30 = .ok (.dup, 1) := by decide +kernel
theorem dX6_init_31 : decode cX6_init 31 = .ok (.invokespecial 25, 3) := by decide +kernel
theorem dX6_init_34 : decode cX6_init 34 = .ok (.putfield 26, 3) := by decide +kernel
theorem dX6_init_37 : decode cX6_init 37 = .ok (.aload_n 0, 1) := by decide +kernel
theorem dX6_init_38 : decode cX6_init 38 = .ok (.new 23, 3) := by decide +kernel
theorem dX6_init_41 : decode cX6_init 41 = .ok (.dup, 1) := by decide +kernel
theorem dX6_init_42 : decode cX6_init 42 = .ok (.invokespecial 25, 3) := by decide +kernel
theorem dX6_init_45 : decode cX6_init 45 = .ok (.putfield 30, 3) := by decide +kernel
theorem dX6_init_48 : decode cX6_init 48 = .ok (.aload_n 0, 1) := by decide +kernel
theorem dX6_init_49 : decode cX6_init 49 = .ok (.aconst_null, 1) := by decide +kernel
theorem dX6_init_50 : decode cX6_init 50 = .ok (.putfield 33, 3) := by decide +kernel
theorem dX6_init_53 : decode cX6_init 53 = .ok (.aload_n 0, 1) := by decide +kernel
theorem dX6_init_54 : decode cX6_init 54 = .ok (.aconst_null, 1) := by decide +kernel
theorem dX6_init_55 : decode cX6_init 55 = .ok (.putfield 37, 3) := by decide +kernel
theorem dX6_init_58 : decode cX6_init 58 = .ok (.aload_n 0, 1) := by decide +kernel
theorem dX6_init_59 : decode cX6_init 59 = .ok (.getfield 12, 3) := by decide +kernel
theorem dX6_init_62 : decode cX6_init 62 = .ok (.iconst 4, 1) := by decide +kernel
theorem dX6_init_63 : decode cX6_init 63 = .ok (.iconst 4, 1) := by decide +kernel
theorem dX6_init_64 : decode cX6_init 64 = .ok (.invokevirtual 41, 3) := by decide +kernel
theorem dX6_init_67 : decode cX6_init 67 = .ok (.aload_n 0, 1) := by decide +kernel
theorem dX6_init_68 : decode cX6_init 68 = .ok (.aload_n 0, 1) := by decide +kernel
theorem dX6_init_69 : decode cX6_init 69 = .ok (.getfield 12, 3) := by decide +kernel
theorem dX6_init_72 : decode cX6_init 72 = .ok (.getfield 45, 3) := by decide +kernel
theorem dX6_init_75 : decode cX6_init 75 = .ok (.putfield 49, 3) := by decide +kernel
theorem dX6_init_78 : decode cX6_init 78 = .ok (.aload_n 0, 1) := by decide +kernel
theorem dX6_init_79 : decode cX6_init 79 = .ok (.iconst 0, 1) := by decide +kernel
theorem dX6_init_80 : decode cX6_init 80 = .ok (.putfield 52, 3) := by decide +kernel
theorem dX6_init_83 : decode cX6_init 83 = .ok (.aload_n 0, 1) := by decide +kernel
theorem dX6_init_84 : decode cX6_init 84 = .ok (.iconst (-1), 1) := by decide +kernel
theorem dX6_init_85 : decode cX6_init 85 = .ok (.putfield 56, 3) := by decide +kernel
theorem dX6_init_88 : decode cX6_init 88 = .ok (.return_, 1) := by decide +kernel
theorem dX6_sea_0 : decode cX6_sea 0 = .ok (.iload_n 1, 1) := by decide +kernel
theorem dX6_sea_1 : decode cX6_sea 1 = .ok (.iconst 2, 1) := by decide +kernel
theorem dX6_sea_2 : decode cX6_sea 2 = .ok (.if_icmp .lt 20, 3) := by decide +kernel
theorem dX6_sea_5 : decode cX6_sea 5 = .ok (.iload_n 1, 1) := by decide +kernel
theorem dX6_sea_6 : decode cX6_sea 6 = .ok (.bipush 8, 2) := by decide +kernel
theorem dX6_sea_8 : decode cX6_sea 8 = .ok (.if_icmp .gt 14, 3) := by decide +kernel
theorem dX6_sea_11 : decode cX6_sea 11 = .ok (.iload_n 2, 1) := by decide +kernel
theorem dX6_sea_12 : decode cX6_sea 12 = .ok (.iconst 2, 1) := by decide +kernel
theorem dX6_sea_13 : decode cX6_sea 13 = .ok (.if_icmp .lt 9, 3) := by decide +kernel
theorem dX6_sea_16 : decode cX6_sea 16 = .ok (.iload_n 2, 1) := by decide +kernel
theorem dX6_sea_17 : decode cX6_sea 17 = .ok (.bipush 8, 2) := by decide +kernel
theorem dX6_sea_19 : decode cX6_sea 19 = .ok (.if_icmp .le 5, 3) := by decide +kernel
theorem dX6_sea_22 : decode cX6_sea 22 = .ok (.iconst 0, 1) := by decide +kernel
theorem dX6_sea_23 : decode cX6_sea 23 = .ok (.ireturn, 1) := by decide +kernel
theorem dX6_sea_24 : decode cX6_sea 24 = .ok (.aload_n 0, 1) := by decide +kernel
theorem dX6_sea_25 : decode cX6_sea 25 = .ok (.getfield 12, 3) := by decide +kernel
theorem dX6_sea_28 : decode cX6_sea 28 = .ok (.iload_n 1, 1) := by decide +kernel
theorem dX6_sea_29 : decode cX6_sea 29 = .ok (.iload_n 2, 1) := by decide +kernel
theorem dX6_sea_30 : decode cX6_sea 30 = .ok (.invokevirtual 41, 3) := by decide +kernel
theorem dX6_sea_33 : decode cX6_sea 33 = .ok (.aload_n 0, 1) := by decide +kernel
theorem dX6_sea_34 : decode cX6_sea 34 = .ok (.aload_n 0, 1) := by decide +kernel
theorem dX6_sea_35 : decode cX6_sea 35 = .ok (.getfield 12, 3) := by decide +kernel
theorem dX6_sea_38 : decode cX6_sea 38 = .ok (.getfield 45, 3) := by decide +kernel
theorem dX6_sea_41 : decode cX6_sea 41 = .ok (.invokevirtual 59, 3) := by decide +kernel
theorem dX6_sea_44 : decode cX6_sea 44 = .ok (.iconst 1, 1) := by decide +kernel
theorem dX6_sea_45 : decode cX6_sea 45 = .ok (.ireturn, 1) := by decide +kernel
theorem dX6_land_0 : decode cX6_land 0 = .ok (.aload_n 0, 1) := by decide +kernel
theorem dX6_land_1 : decode cX6_land 1 = .ok (.getfield 12, 3) := by decide +kernel
theorem dX6_land_4 : decode cX6_land 4 = .ok (.iload_n 1, 1) := by decide +kernel
theorem dX6_land_5 : decode cX6_land 5 = .ok (.invokevirtual 63, 3) := by decide +kernel
theorem dX6_land_8 : decode cX6_land 8 = .ok (.ifCond .eq 13, 3) := by decide +kernel
theorem dX6_land_11 : decode cX6_land 11 = .ok (.iload_n 2, 1) := by decide +kernel
theorem dX6_land_12 : decode cX6_land 12 = .ok (.iconst (-1), 1) := by decide +kernel
theorem dX6_land_13 : decode cX6_land 13 = .ok (.if_icmp .lt 8, 3) := by decide +kernel
theorem dX6_land_16 : decode cX6_land 16 = .ok (.iload_n 2, 1) := by decide +kernel
theorem dX6_land_17 : decode cX6_land 17 = .ok (.iconst 3, 1) := by decide +kernel
theorem dX6_land_18 : decode cX6_land 18 = .ok (.if_icmp .le 5, 3) := by decide +kernel
theorem dX6_land_21 : decode cX6_land 21 = .ok (.iconst 0, 1) := by decide +kernel
theorem dX6_land_22 : decode cX6_land 22 = .ok (.ireturn, 1) := by decide +kernel
theorem dX6_land_23 : decode cX6_land 23 = .ok (.aload_n 0, 1) := by decide +kernel
theorem dX6_land_24 : decode cX6_land 24 = .ok (.getfield 12, 3) := by decide +kernel
theorem dX6_land_27 : decode cX6_land 27 = .ok (.iload_n 1, 1) := by decide +kernel
theorem dX6_land_28 : decode cX6_land 28 = .ok (.iload_n 2, 1) := by decide +kernel
theorem dX6_land_29 : decode cX6_land 29 = .ok (.invokevirtual 67, 3) := by decide +kernel
theorem dX6_land_32 : decode cX6_land 32 = .ok (.iconst 1, 1) := by decide +kernel
theorem dX6_land_33 : decode cX6_land 33 = .ok (.ireturn, 1) := by decide +kernel
theorem dX6_swell_0 : decode cX6_swell 0 = .ok (.aload_n 0, 1) := by decide +kernel
theorem dX6_swell_1 : decode cX6_swell 1 = .ok (.getfield 12, 3) := by decide +kernel
theorem dX6_swell_4 : decode cX6_swell 4 = .ok (.iload_n 1, 1) := by decide +kernel
theorem dX6_swell_5 : decode cX6_swell 5 = .ok (.invokevirtual 63, 3) := by decide +kernel
theorem dX6_swell_8 : decode cX6_swell 8 = .ok (.ifCond .eq 12, 3) := by decide +kernel
theorem dX6_swell_11 : decode cX6_swell 11 = .ok (.iload_n 2, 1) := by decide +kernel
theorem dX6_swell_12 : decode cX6_swell 12 = .ok (.ifCond .lt 8, 3) := by decide +kernel
theorem dX6_swell_15 : decode cX6_swell 15 = .ok (.iload_n 2, 1) := by decide +kernel
theorem dX6_swell_16 : decode cX6_swell 16 = .ok (.iconst 3, 1) := by decide +kernel
theorem dX6_swell_17 : decode cX6_swell 17 = .ok (.if_icmp .le 5, 3) := by decide +kernel
theorem dX6_swell_20 : decode cX6_swell 20 = .ok (.iconst 0, 1) := by decide +kernel
theorem dX6_swell_21 : decode cX6_swell 21 = .ok (.ireturn, 1) := by decide +kernel
theorem dX6_swell_22 : decode cX6_swell 22 = .ok (.aload_n 0, 1) := by decide +kernel
theorem dX6_swell_23 : decode cX6_swell 23 = .ok (.getfield 12, 3) := by decide +kernel
theorem dX6_swell_26 : decode cX6_swell 26 = .ok (.iload_n 1, 1) := by decide +kernel
theorem dX6_swell_27 : decode cX6_swell 27 = .ok (.iload_n 2, 1) := by decide +kernel
theorem dX6_swell_28 : decode cX6_swell 28 = .ok (.invokevirtual 70, 3) := by decide +kernel
theorem dX6_swell_31 : decode cX6_swell 31 = .ok (.iconst 1, 1) := by decide +kernel
theorem dX6_swell_32 : decode cX6_swell 32 = .ok (.ireturn, 1) := by decide +kernel
theorem dX6_drifts_0 : decode cX6_drifts 0 = .ok (.iload_n 1, 1) := by decide +kernel
theorem dX6_drifts_1 : decode cX6_drifts 1 = .ok (.invokestatic 73, 3) := by decide +kernel
theorem dX6_drifts_4 : decode cX6_drifts 4 = .ok (.ifCond .eq 14, 3) := by decide +kernel
theorem dX6_drifts_7 : decode cX6_drifts 7 = .ok (.iload_n 2, 1) := by decide +kernel
theorem dX6_drifts_8 : decode cX6_drifts 8 = .ok (.ifCond .le 10, 3) := by decide +kernel
theorem dX6_drifts_11 : decode cX6_drifts 11 = .ok (.iload_n 2, 1) := by decide +kernel
theorem dX6_drifts_12 : decode cX6_drifts 12 = .ok (.sipush 512, 3) := by decide +kernel
theorem dX6_drifts_15 : decode cX6_drifts 15 = .ok (.if_icmp .lt 5, 3) := by decide +kernel
theorem dX6_drifts_18 : decode cX6_drifts 18 = .ok (.iconst 0, 1) := by decide +kernel
theorem dX6_drifts_19 : decode cX6_drifts 19 = .ok (.ireturn, 1) := by decide +kernel
theorem dX6_drifts_20 : decode cX6_drifts 20 = .ok (.aload_n 0, 1) := by decide +kernel
theorem dX6_drifts_21 : decode cX6_drifts 21 = .ok (.getfield 12, 3) := by decide +kernel
theorem dX6_drifts_24 : decode cX6_drifts 24 = .ok (.iload_n 1, 1) := by decide +kernel
theorem dX6_drifts_25 : decode cX6_drifts 25 = .ok (.iload_n 2, 1) := by decide +kernel
theorem dX6_drifts_26 : decode cX6_drifts 26 = .ok (.invokevirtual 76, 3) := by decide +kernel
theorem dX6_drifts_29 : decode cX6_drifts 29 = .ok (.iconst 1, 1) := by decide +kernel
theorem dX6_drifts_30 : decode cX6_drifts 30 = .ok (.ireturn, 1) := by decide +kernel
theorem dX6_watches_0 : decode cX6_watches 0 = .ok (.iload_n 1, 1) := by decide +kernel
theorem dX6_watches_1 : decode cX6_watches 1 = .ok (.invokestatic 79, 3) := by decide +kernel
theorem dX6_watches_4 : decode cX6_watches 4 = .ok (.ifCond .eq 10, 3) := by decide +kernel
theorem dX6_watches_7 : decode cX6_watches 7 = .ok (.iload_n 2, 1) := by decide +kernel
theorem dX6_watches_8 : decode cX6_watches 8 = .ok (.invokestatic 79, 3) := by decide +kernel
theorem dX6_watches_11 : decode cX6_watches 11 = .ok (.ifCond .ne 5, 3) := by decide +kernel
theorem dX6_watches_14 : decode cX6_watches 14 = .ok (.iconst 0, 1) := by decide +kernel
theorem dX6_watches_15 : decode cX6_watches 15 = .ok (.ireturn, 1) := by decide +kernel
theorem dX6_watches_16 : decode cX6_watches 16 = .ok (.aload_n 0, 1) := by decide +kernel
theorem dX6_watches_17 : decode cX6_watches 17 = .ok (.getfield 12, 3) := by decide +kernel
theorem dX6_watches_20 : decode cX6_watches 20 = .ok (.iload_n 1, 1) := by decide +kernel
theorem dX6_watches_21 : decode cX6_watches 21 = .ok (.iload_n 2, 1) := by decide +kernel
theorem dX6_watches_22 : decode cX6_watches 22 = .ok (.invokevirtual 82, 3) := by decide +kernel
theorem dX6_watches_25 : decode cX6_watches 25 = .ok (.iconst 1, 1) := by decide +kernel
theorem dX6_watches_26 : decode cX6_watches 26 = .ok (.ireturn, 1) := by decide +kernel
theorem dX6_look_0 : decode cX6_look 0 = .ok (.iload_n 1, 1) := by decide +kernel
theorem dX6_look_1 : decode cX6_look 1 = .ok (.tableswitch 125 0 8 #[51, 59, 67, 72, 80, 96, 101, 109, 117], 51) := by decide +kernel
theorem dX6_look_52 : decode cX6_look 52 = .ok (.aload_n 0, 1) := by decide +kernel
theorem dX6_look_53 : decode cX6_look 53 = .ok (.getfield 12, 3) := by decide +kernel
theorem dX6_look_56 : decode cX6_look 56 = .ok (.getfield 85, 3) := by decide +kernel
theorem dX6_look_59 : decode cX6_look 59 = .ok (.ireturn, 1) := by decide +kernel
theorem dX6_look_60 : decode cX6_look 60 = .ok (.aload_n 0, 1) := by decide +kernel
theorem dX6_look_61 : decode cX6_look 61 = .ok (.getfield 12, 3) := by decide +kernel
theorem dX6_look_64 : decode cX6_look 64 = .ok (.getfield 88, 3) := by decide +kernel
theorem dX6_look_67 : decode cX6_look 67 = .ok (.ireturn, 1) := by decide +kernel
theorem dX6_look_68 : decode cX6_look 68 = .ok (.aload_n 0, 1) := by decide +kernel
theorem dX6_look_69 : decode cX6_look 69 = .ok (.getfield 52, 3) := by decide +kernel
theorem dX6_look_72 : decode cX6_look 72 = .ok (.ireturn, 1) := by decide +kernel
theorem dX6_look_73 : decode cX6_look 73 = .ok (.aload_n 0, 1) := by decide +kernel
theorem dX6_look_74 : decode cX6_look 74 = .ok (.getfield 49, 3) := by decide +kernel
theorem dX6_look_77 : decode cX6_look 77 = .ok (.invokestatic 91, 3) := by decide +kernel
theorem dX6_look_80 : decode cX6_look 80 = .ok (.ireturn, 1) := by decide +kernel
theorem dX6_look_81 : decode cX6_look 81 = .ok (.aload_n 0, 1) := by decide +kernel
theorem dX6_look_82 : decode cX6_look 82 = .ok (.getfield 49, 3) := by decide +kernel
theorem dX6_look_85 : decode cX6_look 85 = .ok (.aload_n 0, 1) := by decide +kernel
theorem dX6_look_86 : decode cX6_look 86 = .ok (.getfield 12, 3) := by decide +kernel
theorem dX6_look_89 : decode cX6_look 89 = .ok (.getfield 97, 3) := by decide +kernel
theorem dX6_look_92 : decode cX6_look 92 = .ok (.land, 1) := by decide +kernel
theorem dX6_look_93 : decode cX6_look 93 = .ok (.invokestatic 91, 3) := by decide +kernel
theorem dX6_look_96 : decode cX6_look 96 = .ok (.ireturn, 1) := by decide +kernel
theorem dX6_look_97 : decode cX6_look 97 = .ok (.aload_n 0, 1) := by decide +kernel
theorem dX6_look_98 : decode cX6_look 98 = .ok (.getfield 56, 3) := by decide +kernel
theorem dX6_look_101 : decode cX6_look 101 = .ok (.ireturn, 1) := by decide +kernel
theorem dX6_look_102 : decode cX6_look 102 = .ok (.aload_n 0, 1) := by decide +kernel
theorem dX6_look_103 : decode cX6_look 103 = .ok (.getfield 26, 3) := by decide +kernel
theorem dX6_look_106 : decode cX6_look 106 = .ok (.getfield 100, 3) := by decide +kernel
theorem dX6_look_109 : decode cX6_look 109 = .ok (.ireturn, 1) := by decide +kernel
theorem dX6_look_110 : decode cX6_look 110 = .ok (.aload_n 0, 1) := by decide +kernel
theorem dX6_look_111 : decode cX6_look 111 = .ok (.getfield 12, 3) := by decide +kernel
theorem dX6_look_114 : decode cX6_look 114 = .ok (.getfield 103, 3) := by decide +kernel
theorem dX6_look_117 : decode cX6_look 117 = .ok (.ireturn, 1) := by decide +kernel
theorem dX6_look_118 : decode cX6_look 118 = .ok (.aload_n 0, 1) := by decide +kernel
theorem dX6_look_119 : decode cX6_look 119 = .ok (.getfield 12, 3) := by decide +kernel
theorem dX6_look_122 : decode cX6_look 122 = .ok (.getfield 106, 3) := by decide +kernel
theorem dX6_look_125 : decode cX6_look 125 = .ok (.ireturn, 1) := by decide +kernel
theorem dX6_look_126 : decode cX6_look 126 = .ok (.aload_n 0, 1) := by decide +kernel
theorem dX6_look_127 : decode cX6_look 127 = .ok (.iload_n 1, 1) := by decide +kernel
theorem dX6_look_128 : decode cX6_look 128 = .ok (.invokevirtual 109, 3) := by decide +kernel
theorem dX6_look_131 : decode cX6_look 131 = .ok (.ireturn, 1) := by decide +kernel
theorem dX6_lookAtRows_0 : decode cX6_lookAtRows 0 = .ok (.iload_n 1, 1) := by decide +kernel
theorem dX6_lookAtRows_1 : decode cX6_lookAtRows 1 = .ok (.sipush 200, 3) := by decide +kernel
theorem dX6_lookAtRows_4 : decode cX6_lookAtRows 4 = .ok (.if_icmp .lt 37, 3) := by decide +kernel
theorem dX6_lookAtRows_7 : decode cX6_lookAtRows 7 = .ok (.aload_n 0, 1) := by decide +kernel
theorem dX6_lookAtRows_8 : decode cX6_lookAtRows 8 = .ok (.getfield 12, 3) := by decide +kernel
theorem dX6_lookAtRows_11 : decode cX6_lookAtRows 11 = .ok (.iload_n 1, 1) := by decide +kernel
theorem dX6_lookAtRows_12 : decode cX6_lookAtRows 12 = .ok (.sipush 200, 3) := by decide +kernel
theorem dX6_lookAtRows_15 : decode cX6_lookAtRows 15 = .ok (.isub, 1) := by decide +kernel
theorem dX6_lookAtRows_16 : decode cX6_lookAtRows 16 = .ok (.invokevirtual 63, 3) := by decide +kernel
theorem dX6_lookAtRows_19 : decode cX6_lookAtRows 19 = .ok (.ifCond .eq 19, 3) := by decide +kernel
theorem dX6_lookAtRows_22 : decode cX6_lookAtRows 22 = .ok (.aload_n 0, 1) := by decide +kernel
theorem dX6_lookAtRows_23 : decode cX6_lookAtRows 23 = .ok (.getfield 12, 3) := by decide +kernel
theorem dX6_lookAtRows_26 : decode cX6_lookAtRows 26 = .ok (.getfield 113, 3) := by decide +kernel
theorem dX6_lookAtRows_29 : decode cX6_lookAtRows 29 = .ok (.iload_n 1, 1) := by decide +kernel
theorem dX6_lookAtRows_30 : decode cX6_lookAtRows 30 = .ok (.sipush 200, 3) := by decide +kernel
theorem dX6_lookAtRows_33 : decode cX6_lookAtRows 33 = .ok (.isub, 1) := by decide +kernel
theorem dX6_lookAtRows_34 : decode cX6_lookAtRows 34 = .ok (.iaload, 1) := by decide +kernel
theorem dX6_lookAtRows_35 : decode cX6_lookAtRows 35 = .ok (.goto 5, 3) := by decide +kernel
theorem dX6_lookAtRows_38 : decode cX6_lookAtRows 38 = .ok (.bipush (-2), 2) := by decide +kernel
theorem dX6_lookAtRows_40 : decode cX6_lookAtRows 40 = .ok (.ireturn, 1) := by decide +kernel
theorem dX6_lookAtRows_41 : decode cX6_lookAtRows 41 = .ok (.iload_n 1, 1) := by decide +kernel
theorem dX6_lookAtRows_42 : decode cX6_lookAtRows 42 = .ok (.bipush 100, 2) := by decide +kernel
theorem dX6_lookAtRows_44 : decode cX6_lookAtRows 44 = .ok (.if_icmp .lt 35, 3) := by decide +kernel
theorem dX6_lookAtRows_47 : decode cX6_lookAtRows 47 = .ok (.aload_n 0, 1) := by decide +kernel
theorem dX6_lookAtRows_48 : decode cX6_lookAtRows 48 = .ok (.getfield 12, 3) := by decide +kernel
theorem dX6_lookAtRows_51 : decode cX6_lookAtRows 51 = .ok (.iload_n 1, 1) := by decide +kernel
theorem dX6_lookAtRows_52 : decode cX6_lookAtRows 52 = .ok (.bipush 100, 2) := by decide +kernel
theorem dX6_lookAtRows_54 : decode cX6_lookAtRows 54 = .ok (.isub, 1) := by decide +kernel
theorem dX6_lookAtRows_55 : decode cX6_lookAtRows 55 = .ok (.invokevirtual 63, 3) := by decide +kernel
theorem dX6_lookAtRows_58 : decode cX6_lookAtRows 58 = .ok (.ifCond .eq 18, 3) := by decide +kernel
theorem dX6_lookAtRows_61 : decode cX6_lookAtRows 61 = .ok (.aload_n 0, 1) := by decide +kernel
theorem dX6_lookAtRows_62 : decode cX6_lookAtRows 62 = .ok (.getfield 12, 3) := by decide +kernel
theorem dX6_lookAtRows_65 : decode cX6_lookAtRows 65 = .ok (.getfield 117, 3) := by decide +kernel
theorem dX6_lookAtRows_68 : decode cX6_lookAtRows 68 = .ok (.iload_n 1, 1) := by decide +kernel
theorem dX6_lookAtRows_69 : decode cX6_lookAtRows 69 = .ok (.bipush 100, 2) := by decide +kernel
theorem dX6_lookAtRows_71 : decode cX6_lookAtRows 71 = .ok (.isub, 1) := by decide +kernel
theorem dX6_lookAtRows_72 : decode cX6_lookAtRows 72 = .ok (.iaload, 1) := by decide +kernel
theorem dX6_lookAtRows_73 : decode cX6_lookAtRows 73 = .ok (.goto 5, 3) := by decide +kernel
theorem dX6_lookAtRows_76 : decode cX6_lookAtRows 76 = .ok (.bipush (-2), 2) := by decide +kernel
theorem dX6_lookAtRows_78 : decode cX6_lookAtRows 78 = .ok (.ireturn, 1) := by decide +kernel
theorem dX6_lookAtRows_79 : decode cX6_lookAtRows 79 = .ok (.iload_n 1, 1) := by decide +kernel
theorem dX6_lookAtRows_80 : decode cX6_lookAtRows 80 = .ok (.bipush 10, 2) := by decide +kernel
theorem dX6_lookAtRows_82 : decode cX6_lookAtRows 82 = .ok (.if_icmp .lt 31, 3) := by decide +kernel
theorem dX6_lookAtRows_85 : decode cX6_lookAtRows 85 = .ok (.iload_n 1, 1) := by decide +kernel
theorem dX6_lookAtRows_86 : decode cX6_lookAtRows 86 = .ok (.bipush 10, 2) := by decide +kernel
theorem dX6_lookAtRows_88 : decode cX6_lookAtRows 88 = .ok (.isub, 1) := by decide +kernel
theorem dX6_lookAtRows_89 : decode cX6_lookAtRows 89 = .ok (.invokestatic 73, 3) := by decide +kernel
theorem dX6_lookAtRows_92 : decode cX6_lookAtRows 92 = .ok (.ifCond .eq 18, 3) := by decide +kernel
theorem dX6_lookAtRows_95 : decode cX6_lookAtRows 95 = .ok (.aload_n 0, 1) := by decide +kernel
theorem dX6_lookAtRows_96 : decode cX6_lookAtRows 96 = .ok (.getfield 12, 3) := by decide +kernel
theorem dX6_lookAtRows_99 : decode cX6_lookAtRows 99 = .ok (.getfield 120, 3) := by decide +kernel
theorem dX6_lookAtRows_102 : decode cX6_lookAtRows 102 = .ok (.iload_n 1, 1) := by decide +kernel
theorem dX6_lookAtRows_103 : decode cX6_lookAtRows 103 = .ok (.bipush 10, 2) := by decide +kernel
theorem dX6_lookAtRows_105 : decode cX6_lookAtRows 105 = .ok (.isub, 1) := by decide +kernel
theorem dX6_lookAtRows_106 : decode cX6_lookAtRows 106 = .ok (.iaload, 1) := by decide +kernel
theorem dX6_lookAtRows_107 : decode cX6_lookAtRows 107 = .ok (.goto 5, 3) := by decide +kernel
theorem dX6_lookAtRows_110 : decode cX6_lookAtRows 110 = .ok (.bipush (-2), 2) := by decide +kernel
theorem dX6_lookAtRows_112 : decode cX6_lookAtRows 112 = .ok (.ireturn, 1) := by decide +kernel
theorem dX6_lookAtRows_113 : decode cX6_lookAtRows 113 = .ok (.bipush (-2), 2) := by decide +kernel
theorem dX6_lookAtRows_115 : decode cX6_lookAtRows 115 = .ok (.ireturn, 1) := by decide +kernel
theorem dX6_reckoned_0 : decode cX6_reckoned 0 = .ok (.aload_n 0, 1) := by decide +kernel
theorem dX6_reckoned_1 : decode cX6_reckoned 1 = .ok (.getfield 49, 3) := by decide +kernel
theorem dX6_reckoned_4 : decode cX6_reckoned 4 = .ok (.lreturn, 1) := by decide +kernel
theorem dX6_begin_0 : decode cX6_begin 0 = .ok (.lload_n 1, 1) := by decide +kernel
theorem dX6_begin_1 : decode cX6_begin 1 = .ok (.lconst 0, 1) := by decide +kernel
theorem dX6_begin_2 : decode cX6_begin 2 = .ok (.lcmp, 1) := by decide +kernel
theorem dX6_begin_3 : decode cX6_begin 3 = .ok (.ifCond .eq 21, 3) := by decide +kernel
theorem dX6_begin_6 : decode cX6_begin 6 = .ok (.lload_n 1, 1) := by decide +kernel
theorem dX6_begin_7 : decode cX6_begin 7 = .ok (.aload_n 0, 1) := by decide +kernel
theorem dX6_begin_8 : decode cX6_begin 8 = .ok (.getfield 12, 3) := by decide +kernel
theorem dX6_begin_11 : decode cX6_begin 11 = .ok (.getfield 45, 3) := by decide +kernel
theorem dX6_begin_14 : decode cX6_begin 14 = .ok (.ldc2_w 123, 3) := by decide +kernel
theorem dX6_begin_17 : decode cX6_begin 17 = .ok (.lxor, 1) := by decide +kernel
theorem dX6_begin_18 : decode cX6_begin 18 = .ok (.land, 1) := by decide +kernel
theorem dX6_begin_19 : decode cX6_begin 19 = .ok (.lconst 0, 1) := by decide +kernel
theorem dX6_begin_20 : decode cX6_begin 20 = .ok (.lcmp, 1) := by decide +kernel
theorem dX6_begin_21 : decode cX6_begin 21 = .ok (.ifCond .eq 5, 3) := by decide +kernel
theorem dX6_begin_24 : decode cX6_begin 24 = .ok (.iconst 0, 1) := by decide +kernel
theorem dX6_begin_25 : decode cX6_begin 25 = .ok (.ireturn, 1) := by decide +kernel
theorem dX6_begin_26 : decode cX6_begin 26 = .ok (.aload_n 0, 1) := by decide +kernel
theorem dX6_begin_27 : decode cX6_begin 27 = .ok (.lload_n 1, 1) := by decide +kernel
theorem dX6_begin_28 : decode cX6_begin 28 = .ok (.invokevirtual 59, 3) := by decide +kernel
theorem dX6_begin_31 : decode cX6_begin 31 = .ok (.iconst 1, 1) := by decide +kernel
theorem dX6_begin_32 : decode cX6_begin 32 = .ok (.ireturn, 1) := by decide +kernel
theorem dX6_startWith_0 : decode cX6_startWith 0 = .ok (.aload_n 0, 1) := by decide +kernel
theorem dX6_startWith_1 : decode cX6_startWith 1 = .ok (.lload_n 1, 1) := by decide +kernel
theorem dX6_startWith_2 : decode cX6_startWith 2 = .ok (.putfield 49, 3) := by decide +kernel
theorem dX6_startWith_5 : decode cX6_startWith 5 = .ok (.aload_n 0, 1) := by decide +kernel
theorem dX6_startWith_6 : decode cX6_startWith 6 = .ok (.iconst 0, 1) := by decide +kernel
theorem dX6_startWith_7 : decode cX6_startWith 7 = .ok (.putfield 52, 3) := by decide +kernel
theorem dX6_startWith_10 : decode cX6_startWith 10 = .ok (.aload_n 0, 1) := by decide +kernel
theorem dX6_startWith_11 : decode cX6_startWith 11 = .ok (.iconst (-1), 1) := by decide +kernel
theorem dX6_startWith_12 : decode cX6_startWith 12 = .ok (.putfield 56, 3) := by decide +kernel
theorem dX6_startWith_15 : decode cX6_startWith 15 = .ok (.return_, 1) := by decide +kernel
theorem dX6_put_0 : decode cX6_put 0 = .ok (.aload_n 0, 1) := by decide +kernel
theorem dX6_put_1 : decode cX6_put 1 = .ok (.getfield 12, 3) := by decide +kernel
theorem dX6_put_4 : decode cX6_put 4 = .ok (.iload_n 1, 1) := by decide +kernel
theorem dX6_put_5 : decode cX6_put 5 = .ok (.invokevirtual 63, 3) := by decide +kernel
theorem dX6_put_8 : decode cX6_put 8 = .ok (.ifCond .eq 14, 3) := by decide +kernel
theorem dX6_put_11 : decode cX6_put 11 = .ok (.aload_n 0, 1) := by decide +kernel
theorem dX6_put_12 : decode cX6_put 12 = .ok (.getfield 49, 3) := by decide +kernel
theorem dX6_put_15 : decode cX6_put 15 = .ok (.iload_n 1, 1) := by decide +kernel
theorem dX6_put_16 : decode cX6_put 16 = .ok (.invokestatic 125, 3) := by decide +kernel
theorem dX6_put_19 : decode cX6_put 19 = .ok (.ifCond .ne 5, 3) := by decide +kernel
theorem dX6_put_22 : decode cX6_put 22 = .ok (.iconst 0, 1) := by decide +kernel
theorem dX6_put_23 : decode cX6_put 23 = .ok (.ireturn, 1) := by decide +kernel
theorem dX6_put_24 : decode cX6_put 24 = .ok (.aload_n 0, 1) := by decide +kernel
theorem dX6_put_25 : decode cX6_put 25 = .ok (.iload_n 1, 1) := by decide +kernel
theorem dX6_put_26 : decode cX6_put 26 = .ok (.putfield 56, 3) := by decide +kernel
theorem dX6_put_29 : decode cX6_put 29 = .ok (.iconst 1, 1) := by decide +kernel
theorem dX6_put_30 : decode cX6_put 30 = .ok (.ireturn, 1) := by decide +kernel
theorem dX6_steer_0 : decode cX6_steer 0 = .ok (.aload_n 0, 1) := by decide +kernel
theorem dX6_steer_1 : decode cX6_steer 1 = .ok (.invokevirtual 129, 3) := by decide +kernel
theorem dX6_steer_4 : decode cX6_steer 4 = .ok (.istore_n 3, 1) := by decide +kernel
theorem dX6_steer_5 : decode cX6_steer 5 = .ok (.iload_n 1, 1) := by decide +kernel
theorem dX6_steer_6 : decode cX6_steer 6 = .ok (.invokestatic 133, 3) := by decide +kernel
theorem dX6_steer_9 : decode cX6_steer 9 = .ok (.ifCond .eq 32, 3) := by decide +kernel
theorem dX6_steer_12 : decode cX6_steer 12 = .ok (.iload_n 2, 1) := by decide +kernel
theorem dX6_steer_13 : decode cX6_steer 13 = .ok (.invokestatic 133, 3) := by decide +kernel
theorem dX6_steer_16 : decode cX6_steer 16 = .ok (.ifCond .eq 25, 3) := by decide +kernel
theorem dX6_steer_19 : decode cX6_steer 19 = .ok (.aload_n 0, 1) := by decide +kernel
theorem dX6_steer_20 : decode cX6_steer 20 = .ok (.getfield 12, 3) := by decide +kernel
theorem dX6_steer_23 : decode cX6_steer 23 = .ok (.iload_n 3, 1) := by decide +kernel
theorem dX6_steer_24 : decode cX6_steer 24 = .ok (.iload_n 2, 1) := by decide +kernel
theorem dX6_steer_25 : decode cX6_steer 25 = .ok (.invokevirtual 136, 3) := by decide +kernel
theorem dX6_steer_28 : decode cX6_steer 28 = .ok (.ifCond .eq 13, 3) := by decide +kernel
theorem dX6_steer_31 : decode cX6_steer 31 = .ok (.aload_n 0, 1) := by decide +kernel
theorem dX6_steer_32 : decode cX6_steer 32 = .ok (.getfield 52, 3) := by decide +kernel
theorem dX6_steer_35 : decode cX6_steer 35 = .ok (.sipush 9999, 3) := by decide +kernel
theorem dX6_steer_38 : decode cX6_steer 38 = .ok (.if_icmp .lt 5, 3) := by decide +kernel
theorem dX6_steer_41 : decode cX6_steer 41 = .ok (.iconst (-1), 1) := by decide +kernel
theorem dX6_steer_42 : decode cX6_steer 42 = .ok (.ireturn, 1) := by decide +kernel
theorem dX6_steer_43 : decode cX6_steer 43 = .ok (.aload_n 0, 1) := by decide +kernel
theorem dX6_steer_44 : decode cX6_steer 44 = .ok (.getfield 12, 3) := by decide +kernel
theorem dX6_steer_47 : decode cX6_steer 47 = .ok (.aload_n 0, 1) := by decide +kernel
theorem dX6_steer_48 : decode cX6_steer 48 = .ok (.getfield 49, 3) := by decide +kernel
theorem dX6_steer_51 : decode cX6_steer 51 = .ok (.invokevirtual 140, 3) := by decide +kernel
theorem dX6_steer_54 : decode cX6_steer 54 = .ok (.aload_n 0, 1) := by decide +kernel
theorem dX6_steer_55 : decode cX6_steer 55 = .ok (.aload_n 0, 1) := by decide +kernel
theorem dX6_steer_56 : decode cX6_steer 56 = .ok (.getfield 12, 3) := by decide +kernel
theorem dX6_steer_59 : decode cX6_steer 59 = .ok (.iload_n 1, 1) := by decide +kernel
theorem dX6_steer_60 : decode cX6_steer 60 = .ok (.iload_n 3, 1) := by decide +kernel
theorem dX6_steer_61 : decode cX6_steer 61 = .ok (.invokevirtual 143, 3) := by decide +kernel
theorem dX6_steer_64 : decode cX6_steer 64 = .ok (.putfield 49, 3) := by decide +kernel
theorem dX6_steer_67 : decode cX6_steer 67 = .ok (.aload_n 0, 1) := by decide +kernel
theorem dX6_steer_68 : decode cX6_steer 68 = .ok (.getfield 12, 3) := by decide +kernel
theorem dX6_steer_71 : decode cX6_steer 71 = .ok (.aload_n 0, 1) := by decide +kernel
theorem dX6_steer_72 : decode cX6_steer 72 = .ok (.getfield 56, 3) := by decide +kernel
theorem dX6_steer_75 : decode cX6_steer 75 = .ok (.invokevirtual 63, 3) := by decide +kernel
theorem dX6_steer_78 : decode cX6_steer 78 = .ok (.ifCond .eq 37, 3) := by decide +kernel
theorem dX6_steer_81 : decode cX6_steer 81 = .ok (.aload_n 0, 1) := by decide +kernel
theorem dX6_steer_82 : decode cX6_steer 82 = .ok (.getfield 12, 3) := by decide +kernel
theorem dX6_steer_85 : decode cX6_steer 85 = .ok (.getfield 97, 3) := by decide +kernel
theorem dX6_steer_88 : decode cX6_steer 88 = .ok (.aload_n 0, 1) := by decide +kernel
theorem dX6_steer_89 : decode cX6_steer 89 = .ok (.getfield 56, 3) := by decide +kernel
theorem dX6_steer_92 : decode cX6_steer 92 = .ok (.invokestatic 125, 3) := by decide +kernel
theorem dX6_steer_95 : decode cX6_steer 95 = .ok (.ifCond .ne 20, 3) := by decide +kernel
theorem dX6_steer_98 : decode cX6_steer 98 = .ok (.aload_n 0, 1) := by decide +kernel
theorem dX6_steer_99 : decode cX6_steer 99 = .ok (.aload_n 0, 1) := by decide +kernel
theorem dX6_steer_100 : decode cX6_steer 100 = .ok (.getfield 12, 3) := by decide +kernel
theorem dX6_steer_103 : decode cX6_steer 103 = .ok (.aload_n 0, 1) := by decide +kernel
theorem dX6_steer_104 : decode cX6_steer 104 = .ok (.getfield 56, 3) := by decide +kernel
theorem dX6_steer_107 : decode cX6_steer 107 = .ok (.iload_n 1, 1) := by decide +kernel
theorem dX6_steer_108 : decode cX6_steer 108 = .ok (.iload_n 2, 1) := by decide +kernel
theorem dX6_steer_109 : decode cX6_steer 109 = .ok (.invokevirtual 147, 3) := by decide +kernel
theorem dX6_steer_112 : decode cX6_steer 112 = .ok (.putfield 56, 3) := by decide +kernel
theorem dX6_steer_115 : decode cX6_steer 115 = .ok (.aload_n 0, 1) := by decide +kernel
theorem dX6_steer_116 : decode cX6_steer 116 = .ok (.dup, 1) := by decide +kernel
theorem dX6_steer_117 : decode cX6_steer 117 = .ok (.getfield 52, 3) := by decide +kernel
theorem dX6_steer_120 : decode cX6_steer 120 = .ok (.iconst 1, 1) := by decide +kernel
theorem dX6_steer_121 : decode cX6_steer 121 = .ok (.iadd, 1) := by decide +kernel
theorem dX6_steer_122 : decode cX6_steer 122 = .ok (.putfield 52, 3) := by decide +kernel
theorem dX6_steer_125 : decode cX6_steer 125 = .ok (.aload_n 0, 1) := by decide +kernel
theorem dX6_steer_126 : decode cX6_steer 126 = .ok (.getfield 49, 3) := by decide +kernel
theorem dX6_steer_129 : decode cX6_steer 129 = .ok (.invokestatic 91, 3) := by decide +kernel
theorem dX6_steer_132 : decode cX6_steer 132 = .ok (.ireturn, 1) := by decide +kernel
theorem dX6_sign_0 : decode cX6_sign 0 = .ok (.aload_n 0, 1) := by decide +kernel
theorem dX6_sign_1 : decode cX6_sign 1 = .ok (.getfield 12, 3) := by decide +kernel
theorem dX6_sign_4 : decode cX6_sign 4 = .ok (.iload_n 1, 1) := by decide +kernel
theorem dX6_sign_5 : decode cX6_sign 5 = .ok (.invokevirtual 63, 3) := by decide +kernel
theorem dX6_sign_8 : decode cX6_sign 8 = .ok (.ifCond .eq 17, 3) := by decide +kernel
theorem dX6_sign_11 : decode cX6_sign 11 = .ok (.iload_n 2, 1) := by decide +kernel
theorem dX6_sign_12 : decode cX6_sign 12 = .ok (.invokestatic 73, 3) := by decide +kernel
theorem dX6_sign_15 : decode cX6_sign 15 = .ok (.ifCond .eq 10, 3) := by decide +kernel
theorem dX6_sign_18 : decode cX6_sign 18 = .ok (.iload_n 3, 1) := by decide +kernel
theorem dX6_sign_19 : decode cX6_sign 19 = .ok (.invokestatic 151, 3) := by decide +kernel
theorem dX6_sign_22 : decode cX6_sign 22 = .ok (.ifCond .ne 6, 3) := by decide +kernel
theorem dX6_sign_25 : decode cX6_sign 25 = .ok (.bipush (-2), 2) := by decide +kernel
theorem dX6_sign_27 : decode cX6_sign 27 = .ok (.ireturn, 1) := by decide +kernel
theorem dX6_sign_28 : decode cX6_sign 28 = .ok (.aload_n 0, 1) := by decide +kernel
theorem dX6_sign_29 : decode cX6_sign 29 = .ok (.getfield 12, 3) := by decide +kernel
theorem dX6_sign_32 : decode cX6_sign 32 = .ok (.iload_n 1, 1) := by decide +kernel
theorem dX6_sign_33 : decode cX6_sign 33 = .ok (.iload_n 2, 1) := by decide +kernel
theorem dX6_sign_34 : decode cX6_sign 34 = .ok (.iload_n 3, 1) := by decide +kernel
theorem dX6_sign_35 : decode cX6_sign 35 = .ok (.invokevirtual 154, 3) := by decide +kernel
theorem dX6_sign_38 : decode cX6_sign 38 = .ok (.ireturn, 1) := by decide +kernel
theorem dX6_see_0 : decode cX6_see 0 = .ok (.iload_n 1, 1) := by decide +kernel
theorem dX6_see_1 : decode cX6_see 1 = .ok (.invokestatic 151, 3) := by decide +kernel
theorem dX6_see_4 : decode cX6_see 4 = .ok (.ifCond .ne 5, 3) := by decide +kernel
theorem dX6_see_7 : decode cX6_see 7 = .ok (.iconst (-1), 1) := by decide +kernel
theorem dX6_see_8 : decode cX6_see 8 = .ok (.ireturn, 1) := by decide +kernel
theorem dX6_see_9 : decode cX6_see 9 = .ok (.aload_n 0, 1) := by decide +kernel
theorem dX6_see_10 : decode cX6_see 10 = .ok (.getfield 49, 3) := by decide +kernel
theorem dX6_see_13 : decode cX6_see 13 = .ok (.aload_n 0, 1) := by decide +kernel
theorem dX6_see_14 : decode cX6_see 14 = .ok (.getfield 12, 3) := by decide +kernel
theorem dX6_see_17 : decode cX6_see 17 = .ok (.iload_n 1, 1) := by decide +kernel
theorem dX6_see_18 : decode cX6_see 18 = .ok (.iload_n 2, 1) := by decide +kernel
theorem dX6_see_19 : decode cX6_see 19 = .ok (.aload_n 0, 1) := by decide +kernel
theorem dX6_see_20 : decode cX6_see 20 = .ok (.invokevirtual 129, 3) := by decide +kernel
theorem dX6_see_23 : decode cX6_see 23 = .ok (.invokevirtual 157, 3) := by decide +kernel
theorem dX6_see_26 : decode cX6_see 26 = .ok (.land, 1) := by decide +kernel
theorem dX6_see_27 : decode cX6_see 27 = .ok (.lstore_n 3, 1) := by decide +kernel
theorem dX6_see_28 : decode cX6_see 28 = .ok (.lload_n 3, 1) := by decide +kernel
theorem dX6_see_29 : decode cX6_see 29 = .ok (.lconst 0, 1) := by decide +kernel
theorem dX6_see_30 : decode cX6_see 30 = .ok (.lcmp, 1) := by decide +kernel
theorem dX6_see_31 : decode cX6_see 31 = .ok (.ifCond .eq 28, 3) := by decide +kernel
theorem dX6_see_34 : decode cX6_see 34 = .ok (.aload_n 0, 1) := by decide +kernel
theorem dX6_see_35 : decode cX6_see 35 = .ok (.getfield 12, 3) := by decide +kernel
theorem dX6_see_38 : decode cX6_see 38 = .ok (.aload_n 0, 1) := by decide +kernel
theorem dX6_see_39 : decode cX6_see 39 = .ok (.getfield 56, 3) := by decide +kernel
theorem dX6_see_42 : decode cX6_see 42 = .ok (.invokevirtual 63, 3) := by decide +kernel
theorem dX6_see_45 : decode cX6_see 45 = .ok (.ifCond .eq 16, 3) := by decide +kernel
theorem dX6_see_48 : decode cX6_see 48 = .ok (.lload_n 3, 1) := by decide +kernel
theorem dX6_see_49 : decode cX6_see 49 = .ok (.aload_n 0, 1) := by decide +kernel
theorem dX6_see_50 : decode cX6_see 50 = .ok (.getfield 56, 3) := by decide +kernel
theorem dX6_see_53 : decode cX6_see 53 = .ok (.invokestatic 125, 3) := by decide +kernel
theorem dX6_see_56 : decode cX6_see 56 = .ok (.ifCond .ne 5, 3) := by decide +kernel
theorem dX6_see_59 : decode cX6_see 59 = .ok (.iconst (-1), 1) := by decide +kernel
theorem dX6_see_60 : decode cX6_see 60 = .ok (.ireturn, 1) := by decide +kernel
theorem dX6_see_61 : decode cX6_see 61 = .ok (.aload_n 0, 1) := by decide +kernel
theorem dX6_see_62 : decode cX6_see 62 = .ok (.lload_n 3, 1) := by decide +kernel
theorem dX6_see_63 : decode cX6_see 63 = .ok (.putfield 49, 3) := by decide +kernel
theorem dX6_see_66 : decode cX6_see 66 = .ok (.aload_n 0, 1) := by decide +kernel
theorem dX6_see_67 : decode cX6_see 67 = .ok (.getfield 49, 3) := by decide +kernel
theorem dX6_see_70 : decode cX6_see 70 = .ok (.invokestatic 91, 3) := by decide +kernel
theorem dX6_see_73 : decode cX6_see 73 = .ok (.ireturn, 1) := by decide +kernel
theorem dX6_sights_0 : decode cX6_sights 0 = .ok (.aload_n 0, 1) := by decide +kernel
theorem dX6_sights_1 : decode cX6_sights 1 = .ok (.getfield 12, 3) := by decide +kernel
theorem dX6_sights_4 : decode cX6_sights 4 = .ok (.aload_n 0, 1) := by decide +kernel
theorem dX6_sights_5 : decode cX6_sights 5 = .ok (.getfield 56, 3) := by decide +kernel
theorem dX6_sights_8 : decode cX6_sights 8 = .ok (.invokevirtual 63, 3) := by decide +kernel
theorem dX6_sights_11 : decode cX6_sights 11 = .ok (.ifCond .ne 5, 3) := by decide +kernel
theorem dX6_sights_14 : decode cX6_sights 14 = .ok (.iconst (-1), 1) := by decide +kernel
theorem dX6_sights_15 : decode cX6_sights 15 = .ok (.ireturn, 1) := by decide +kernel
theorem dX6_sights_16 : decode cX6_sights 16 = .ok (.aload_n 0, 1) := by decide +kernel
theorem dX6_sights_17 : decode cX6_sights 17 = .ok (.invokevirtual 129, 3) := by decide +kernel
theorem dX6_sights_20 : decode cX6_sights 20 = .ok (.istore_n 1, 1) := by decide +kernel
theorem dX6_sights_21 : decode cX6_sights 21 = .ok (.iconst 0, 1) := by decide +kernel
theorem dX6_sights_22 : decode cX6_sights 22 = .ok (.istore_n 2, 1) := by decide +kernel
theorem dX6_sights_23 : decode cX6_sights 23 = .ok (.iload_n 2, 1) := by decide +kernel
theorem dX6_sights_24 : decode cX6_sights 24 = .ok (.iconst 2, 1) := by decide +kernel
theorem dX6_sights_25 : decode cX6_sights 25 = .ok (.if_icmp .gt 40, 3) := by decide +kernel
theorem dX6_sights_28 : decode cX6_sights 28 = .ok (.aload_n 0, 1) := by decide +kernel
theorem dX6_sights_29 : decode cX6_sights 29 = .ok (.dup, 1) := by decide +kernel
theorem dX6_sights_30 : decode cX6_sights 30 = .ok (.getfield 49, 3) := by decide +kernel
theorem dX6_sights_33 : decode cX6_sights 33 = .ok (.aload_n 0, 1) := by decide +kernel
theorem dX6_sights_34 : decode cX6_sights 34 = .ok (.getfield 12, 3) := by decide +kernel
theorem dX6_sights_37 : decode cX6_sights 37 = .ok (.iload_n 2, 1) := by decide +kernel
theorem dX6_sights_38 : decode cX6_sights 38 = .ok (.aload_n 0, 1) := by decide +kernel
theorem dX6_sights_39 : decode cX6_sights 39 = .ok (.getfield 12, 3) := by decide +kernel
theorem dX6_sights_42 : decode cX6_sights 42 = .ok (.aload_n 0, 1) := by decide +kernel
theorem dX6_sights_43 : decode cX6_sights 43 = .ok (.getfield 56, 3) := by decide +kernel
theorem dX6_sights_46 : decode cX6_sights 46 = .ok (.iload_n 1, 1) := by decide +kernel
theorem dX6_sights_47 : decode cX6_sights 47 = .ok (.iload_n 2, 1) := by decide +kernel
theorem dX6_sights_48 : decode cX6_sights 48 = .ok (.invokevirtual 154, 3) := by decide +kernel
theorem dX6_sights_51 : decode cX6_sights 51 = .ok (.iload_n 1, 1) := by decide +kernel
theorem dX6_sights_52 : decode cX6_sights 52 = .ok (.invokevirtual 157, 3) := by decide +kernel
theorem dX6_sights_55 : decode cX6_sights 55 = .ok (.land, 1) := by decide +kernel
theorem dX6_sights_56 : decode cX6_sights 56 = .ok (.putfield 49, 3) := by decide +kernel
theorem dX6_sights_59 : decode cX6_sights 59 = .ok (.iinc 2 1, 3) := by decide +kernel
theorem dX6_sights_62 : decode cX6_sights 62 = .ok (.goto (-39), 3) := by decide +kernel
theorem dX6_sights_65 : decode cX6_sights 65 = .ok (.aload_n 0, 1) := by decide +kernel
theorem dX6_sights_66 : decode cX6_sights 66 = .ok (.getfield 49, 3) := by decide +kernel
theorem dX6_sights_69 : decode cX6_sights 69 = .ok (.invokestatic 91, 3) := by decide +kernel
theorem dX6_sights_72 : decode cX6_sights 72 = .ok (.ireturn, 1) := by decide +kernel
theorem dX6_feed_0 : decode cX6_feed 0 = .ok (.aload_n 0, 1) := by decide +kernel
theorem dX6_feed_1 : decode cX6_feed 1 = .ok (.getfield 19, 3) := by decide +kernel
theorem dX6_feed_4 : decode cX6_feed 4 = .ok (.getfield 161, 3) := by decide +kernel
theorem dX6_feed_7 : decode cX6_feed 7 = .ok (.bipush 20, 2) := by decide +kernel
theorem dX6_feed_9 : decode cX6_feed 9 = .ok (.iadd, 1) := by decide +kernel
theorem dX6_feed_10 : decode cX6_feed 10 = .ok (.sipush 400, 3) := by decide +kernel
theorem dX6_feed_13 : decode cX6_feed 13 = .ok (.if_icmp .le 5, 3) := by decide +kernel
theorem dX6_feed_16 : decode cX6_feed 16 = .ok (.iconst (-1), 1) := by decide +kernel
theorem dX6_feed_17 : decode cX6_feed 17 = .ok (.ireturn, 1) := by decide +kernel
theorem dX6_feed_18 : decode cX6_feed 18 = .ok (.aload_n 0, 1) := by decide +kernel
theorem dX6_feed_19 : decode cX6_feed 19 = .ok (.getfield 19, 3) := by decide +kernel
theorem dX6_feed_22 : decode cX6_feed 22 = .ok (.iload_n 1, 1) := by decide +kernel
theorem dX6_feed_23 : decode cX6_feed 23 = .ok (.invokevirtual 164, 3) := by decide +kernel
theorem dX6_feed_26 : decode cX6_feed 26 = .ok (.aload_n 0, 1) := by decide +kernel
theorem dX6_feed_27 : decode cX6_feed 27 = .ok (.getfield 19, 3) := by decide +kernel
theorem dX6_feed_30 : decode cX6_feed 30 = .ok (.iload_n 2, 1) := by decide +kernel
theorem dX6_feed_31 : decode cX6_feed 31 = .ok (.invokevirtual 164, 3) := by decide +kernel
theorem dX6_feed_34 : decode cX6_feed 34 = .ok (.aload_n 0, 1) := by decide +kernel
theorem dX6_feed_35 : decode cX6_feed 35 = .ok (.getfield 19, 3) := by decide +kernel
theorem dX6_feed_38 : decode cX6_feed 38 = .ok (.iload_n 3, 1) := by decide +kernel
theorem dX6_feed_39 : decode cX6_feed 39 = .ok (.invokevirtual 164, 3) := by decide +kernel
theorem dX6_feed_42 : decode cX6_feed 42 = .ok (.aload_n 0, 1) := by decide +kernel
theorem dX6_feed_43 : decode cX6_feed 43 = .ok (.getfield 19, 3) := by decide +kernel
theorem dX6_feed_46 : decode cX6_feed 46 = .ok (.iload 4, 2) := by decide +kernel
theorem dX6_feed_48 : decode cX6_feed 48 = .ok (.invokevirtual 164, 3) := by decide +kernel
theorem dX6_feed_51 : decode cX6_feed 51 = .ok (.aload_n 0, 1) := by decide +kernel
theorem dX6_feed_52 : decode cX6_feed 52 = .ok (.getfield 19, 3) := by decide +kernel
theorem dX6_feed_55 : decode cX6_feed 55 = .ok (.iload 5, 2) := by decide +kernel
theorem dX6_feed_57 : decode cX6_feed 57 = .ok (.invokevirtual 164, 3) := by decide +kernel
theorem dX6_feed_60 : decode cX6_feed 60 = .ok (.aload_n 0, 1) := by decide +kernel
theorem dX6_feed_61 : decode cX6_feed 61 = .ok (.getfield 19, 3) := by decide +kernel
theorem dX6_feed_64 : decode cX6_feed 64 = .ok (.getfield 161, 3) := by decide +kernel
theorem dX6_feed_67 : decode cX6_feed 67 = .ok (.ireturn, 1) := by decide +kernel
theorem dX6_end_0 : decode cX6_end 0 = .ok (.iload_n 1, 1) := by decide +kernel
theorem dX6_end_1 : decode cX6_end 1 = .ok (.ifCond .lt 14, 3) := by decide +kernel
theorem dX6_end_4 : decode cX6_end 4 = .ok (.iload_n 1, 1) := by decide +kernel
theorem dX6_end_5 : decode cX6_end 5 = .ok (.aload_n 0, 1) := by decide +kernel
theorem dX6_end_6 : decode cX6_end 6 = .ok (.getfield 19, 3) := by decide +kernel
theorem dX6_end_9 : decode cX6_end 9 = .ok (.getfield 161, 3) := by decide +kernel
theorem dX6_end_12 : decode cX6_end 12 = .ok (.if_icmp .le 5, 3) := by decide +kernel
theorem dX6_end_15 : decode cX6_end 15 = .ok (.iconst (-1), 1) := by decide +kernel
theorem dX6_end_16 : decode cX6_end 16 = .ok (.ireturn, 1) := by decide +kernel
theorem dX6_end_17 : decode cX6_end 17 = .ok (.aload_n 0, 1) := by decide +kernel
theorem dX6_end_18 : decode cX6_end 18 = .ok (.getfield 19, 3) := by decide +kernel
theorem dX6_end_21 : decode cX6_end 21 = .ok (.iload_n 1, 1) := by decide +kernel
theorem dX6_end_22 : decode cX6_end 22 = .ok (.putfield 161, 3) := by decide +kernel
theorem dX6_end_25 : decode cX6_end 25 = .ok (.iload_n 1, 1) := by decide +kernel
theorem dX6_end_26 : decode cX6_end 26 = .ok (.ireturn, 1) := by decide +kernel
theorem dX6_chant_0 : decode cX6_chant 0 = .ok (.aload_n 0, 1) := by decide +kernel
theorem dX6_chant_1 : decode cX6_chant 1 = .ok (.getfield 19, 3) := by decide +kernel
theorem dX6_chant_4 : decode cX6_chant 4 = .ok (.aload_n 0, 1) := by decide +kernel
theorem dX6_chant_5 : decode cX6_chant 5 = .ok (.getfield 30, 3) := by decide +kernel
theorem dX6_chant_8 : decode cX6_chant 8 = .ok (.invokevirtual 168, 3) := by decide +kernel
theorem dX6_chant_11 : decode cX6_chant 11 = .ok (.istore_n 1, 1) := by decide +kernel
theorem dX6_chant_12 : decode cX6_chant 12 = .ok (.aload_n 0, 1) := by decide +kernel
theorem dX6_chant_13 : decode cX6_chant 13 = .ok (.getfield 19, 3) := by decide +kernel
theorem dX6_chant_16 : decode cX6_chant 16 = .ok (.iconst 0, 1) := by decide +kernel
theorem dX6_chant_17 : decode cX6_chant 17 = .ok (.putfield 161, 3) := by decide +kernel
theorem dX6_chant_20 : decode cX6_chant 20 = .ok (.iload_n 1, 1) := by decide +kernel
theorem dX6_chant_21 : decode cX6_chant 21 = .ok (.ifCond .ne 5, 3) := by decide +kernel
theorem dX6_chant_24 : decode cX6_chant 24 = .ok (.iconst (-1), 1) := by decide +kernel
theorem dX6_chant_25 : decode cX6_chant 25 = .ok (.ireturn, 1) := by decide +kernel
theorem dX6_chant_26 : decode cX6_chant 26 = .ok (.aload_n 0, 1) := by decide +kernel
theorem dX6_chant_27 : decode cX6_chant 27 = .ok (.getfield 26, 3) := by decide +kernel
theorem dX6_chant_30 : decode cX6_chant 30 = .ok (.astore_n 2, 1) := by decide +kernel
theorem dX6_chant_31 : decode cX6_chant 31 = .ok (.aload_n 0, 1) := by decide +kernel
theorem dX6_chant_32 : decode cX6_chant 32 = .ok (.aload_n 0, 1) := by decide +kernel
theorem dX6_chant_33 : decode cX6_chant 33 = .ok (.getfield 30, 3) := by decide +kernel
theorem dX6_chant_36 : decode cX6_chant 36 = .ok (.putfield 26, 3) := by decide +kernel
theorem dX6_chant_39 : decode cX6_chant 39 = .ok (.aload_n 0, 1) := by decide +kernel
theorem dX6_chant_40 : decode cX6_chant 40 = .ok (.aload_n 2, 1) := by decide +kernel
theorem dX6_chant_41 : decode cX6_chant 41 = .ok (.putfield 30, 3) := by decide +kernel
theorem dX6_chant_44 : decode cX6_chant 44 = .ok (.aload_n 0, 1) := by decide +kernel
theorem dX6_chant_45 : decode cX6_chant 45 = .ok (.getfield 33, 3) := by decide +kernel
theorem dX6_chant_48 : decode cX6_chant 48 = .ok (.ifnull 10, 3) := by decide +kernel
theorem dX6_chant_51 : decode cX6_chant 51 = .ok (.aload_n 0, 1) := by decide +kernel
theorem dX6_chant_52 : decode cX6_chant 52 = .ok (.getfield 33, 3) := by decide +kernel
theorem dX6_chant_55 : decode cX6_chant 55 = .ok (.invokevirtual 172, 3) := by decide +kernel
theorem dX6_chant_58 : decode cX6_chant 58 = .ok (.aload_n 0, 1) := by decide +kernel
theorem dX6_chant_59 : decode cX6_chant 59 = .ok (.getfield 26, 3) := by decide +kernel
theorem dX6_chant_62 : decode cX6_chant 62 = .ok (.getfield 100, 3) := by decide +kernel
theorem dX6_chant_65 : decode cX6_chant 65 = .ok (.ireturn, 1) := by decide +kernel
theorem dX6_fault_0 : decode cX6_fault 0 = .ok (.iload_n 1, 1) := by decide +kernel
theorem dX6_fault_1 : decode cX6_fault 1 = .ok (.ifCond .ne 11, 3) := by decide +kernel
theorem dX6_fault_4 : decode cX6_fault 4 = .ok (.aload_n 0, 1) := by decide +kernel
theorem dX6_fault_5 : decode cX6_fault 5 = .ok (.getfield 19, 3) := by decide +kernel
theorem dX6_fault_8 : decode cX6_fault 8 = .ok (.getfield 177, 3) := by decide +kernel
theorem dX6_fault_11 : decode cX6_fault 11 = .ok (.ireturn, 1) := by decide +kernel
theorem dX6_fault_12 : decode cX6_fault 12 = .ok (.iload_n 1, 1) := by decide +kernel
theorem dX6_fault_13 : decode cX6_fault 13 = .ok (.iconst 1, 1) := by decide +kernel
theorem dX6_fault_14 : decode cX6_fault 14 = .ok (.if_icmp .ne 13, 3) := by decide +kernel
theorem dX6_fault_17 : decode cX6_fault 17 = .ok (.aload_n 0, 1) := by decide +kernel
theorem dX6_fault_18 : decode cX6_fault 18 = .ok (.getfield 19, 3) := by decide +kernel
theorem dX6_fault_21 : decode cX6_fault 21 = .ok (.getfield 180, 3) := by decide +kernel
theorem dX6_fault_24 : decode cX6_fault 24 = .ok (.goto 4, 3) := by decide +kernel
theorem dX6_fault_27 : decode cX6_fault 27 = .ok (.iconst (-1), 1) := by decide +kernel
theorem dX6_fault_28 : decode cX6_fault 28 = .ok (.ireturn, 1) := by decide +kernel
theorem dX6_sure_0 : decode cX6_sure 0 = .ok (.iload_n 1, 1) := by decide +kernel
theorem dX6_sure_1 : decode cX6_sure 1 = .ok (.ifCond .lt 8, 3) := by decide +kernel
theorem dX6_sure_4 : decode cX6_sure 4 = .ok (.iload_n 1, 1) := by decide +kernel
theorem dX6_sure_5 : decode cX6_sure 5 = .ok (.iconst 2, 1) := by decide +kernel
theorem dX6_sure_6 : decode cX6_sure 6 = .ok (.if_icmp .le 6, 3) := by decide +kernel
theorem dX6_sure_9 : decode cX6_sure 9 = .ok (.bipush (-2), 2) := by decide +kernel
theorem dX6_sure_11 : decode cX6_sure 11 = .ok (.ireturn, 1) := by decide +kernel
theorem dX6_sure_12 : decode cX6_sure 12 = .ok (.aload_n 0, 1) := by decide +kernel
theorem dX6_sure_13 : decode cX6_sure 13 = .ok (.invokevirtual 183, 3) := by decide +kernel
theorem dX6_sure_16 : decode cX6_sure 16 = .ok (.astore_n 2, 1) := by decide +kernel
theorem dX6_sure_17 : decode cX6_sure 17 = .ok (.iload_n 1, 1) := by decide +kernel
theorem dX6_sure_18 : decode cX6_sure 18 = .ok (.ifCond .ne 16, 3) := by decide +kernel
theorem dX6_sure_21 : decode cX6_sure 21 = .ok (.aload_n 2, 1) := by decide +kernel
theorem dX6_sure_22 : decode cX6_sure 22 = .ok (.aload_n 0, 1) := by decide +kernel
theorem dX6_sure_23 : decode cX6_sure 23 = .ok (.getfield 49, 3) := by decide +kernel
theorem dX6_sure_26 : decode cX6_sure 26 = .ok (.aload_n 0, 1) := by decide +kernel
theorem dX6_sure_27 : decode cX6_sure 27 = .ok (.invokevirtual 129, 3) := by decide +kernel
theorem dX6_sure_30 : decode cX6_sure 30 = .ok (.invokevirtual 187, 3) := by decide +kernel
theorem dX6_sure_33 : decode cX6_sure 33 = .ok (.ireturn, 1) := by decide +kernel
theorem dX6_sure_34 : decode cX6_sure 34 = .ok (.iload_n 1, 1) := by decide +kernel
theorem dX6_sure_35 : decode cX6_sure 35 = .ok (.iconst 1, 1) := by decide +kernel
theorem dX6_sure_36 : decode cX6_sure 36 = .ok (.if_icmp .ne 18, 3) := by decide +kernel
theorem dX6_sure_39 : decode cX6_sure 39 = .ok (.aload_n 2, 1) := by decide +kernel
theorem dX6_sure_40 : decode cX6_sure 40 = .ok (.aload_n 0, 1) := by decide +kernel
theorem dX6_sure_41 : decode cX6_sure 41 = .ok (.getfield 49, 3) := by decide +kernel
theorem dX6_sure_44 : decode cX6_sure 44 = .ok (.aload_n 0, 1) := by decide +kernel
theorem dX6_sure_45 : decode cX6_sure 45 = .ok (.invokevirtual 129, 3) := by decide +kernel
theorem dX6_sure_48 : decode cX6_sure 48 = .ok (.invokevirtual 191, 3) := by decide +kernel
theorem dX6_sure_51 : decode cX6_sure 51 = .ok (.goto 15, 3) := by decide +kernel
theorem dX6_sure_54 : decode cX6_sure 54 = .ok (.aload_n 2, 1) := by decide +kernel
theorem dX6_sure_55 : decode cX6_sure 55 = .ok (.aload_n 0, 1) := by decide +kernel
theorem dX6_sure_56 : decode cX6_sure 56 = .ok (.getfield 49, 3) := by decide +kernel
theorem dX6_sure_59 : decode cX6_sure 59 = .ok (.aload_n 0, 1) := by decide +kernel
theorem dX6_sure_60 : decode cX6_sure 60 = .ok (.invokevirtual 129, 3) := by decide +kernel
theorem dX6_sure_63 : decode cX6_sure 63 = .ok (.invokevirtual 194, 3) := by decide +kernel
theorem dX6_sure_66 : decode cX6_sure 66 = .ok (.ireturn, 1) := by decide +kernel
theorem dX6_from_0 : decode cX6_from 0 = .ok (.aload_n 0, 1) := by decide +kernel
theorem dX6_from_1 : decode cX6_from 1 = .ok (.getfield 12, 3) := by decide +kernel
theorem dX6_from_4 : decode cX6_from 4 = .ok (.iload_n 1, 1) := by decide +kernel
theorem dX6_from_5 : decode cX6_from 5 = .ok (.invokevirtual 63, 3) := by decide +kernel
theorem dX6_from_8 : decode cX6_from 8 = .ok (.ifCond .ne 6, 3) := by decide +kernel
theorem dX6_from_11 : decode cX6_from 11 = .ok (.bipush (-2), 2) := by decide +kernel
theorem dX6_from_13 : decode cX6_from 13 = .ok (.ireturn, 1) := by decide +kernel
theorem dX6_from_14 : decode cX6_from 14 = .ok (.aload_n 0, 1) := by decide +kernel
theorem dX6_from_15 : decode cX6_from 15 = .ok (.invokevirtual 183, 3) := by decide +kernel
theorem dX6_from_18 : decode cX6_from 18 = .ok (.lconst 1, 1) := by decide +kernel
theorem dX6_from_19 : decode cX6_from 19 = .ok (.iload_n 1, 1) := by decide +kernel
theorem dX6_from_20 : decode cX6_from 20 = .ok (.lshl, 1) := by decide +kernel
theorem dX6_from_21 : decode cX6_from 21 = .ok (.aload_n 0, 1) := by decide +kernel
theorem dX6_from_22 : decode cX6_from 22 = .ok (.invokevirtual 129, 3) := by decide +kernel
theorem dX6_from_25 : decode cX6_from 25 = .ok (.invokevirtual 187, 3) := by decide +kernel
theorem dX6_from_28 : decode cX6_from 28 = .ok (.ireturn, 1) := by decide +kernel
theorem dX6_judgeOfNow_0 : decode cX6_judgeOfNow 0 = .ok (.aload_n 0, 1) := by decide +kernel
theorem dX6_judgeOfNow_1 : decode cX6_judgeOfNow 1 = .ok (.getfield 33, 3) := by decide +kernel
theorem dX6_judgeOfNow_4 : decode cX6_judgeOfNow 4 = .ok (.ifnonnull 14, 3) := by decide +kernel
theorem dX6_judgeOfNow_7 : decode cX6_judgeOfNow 7 = .ok (.aload_n 0, 1) := by decide +kernel
theorem dX6_judgeOfNow_8 : decode cX6_judgeOfNow 8 = .ok (.new 173, 3) := by decide +kernel
theorem dX6_judgeOfNow_11 : decode cX6_judgeOfNow 11 = .ok (.dup, 1) := by decide +kernel
theorem dX6_judgeOfNow_12 : decode cX6_judgeOfNow 12 = .ok (.invokespecial 197, 3) := by decide +kernel
theorem dX6_judgeOfNow_15 : decode cX6_judgeOfNow 15 = .ok (.putfield 33, 3) := by decide +kernel
theorem dX6_judgeOfNow_18 : decode cX6_judgeOfNow 18 = .ok (.aload_n 0, 1) := by decide +kernel
theorem dX6_judgeOfNow_19 : decode cX6_judgeOfNow 19 = .ok (.getfield 33, 3) := by decide +kernel
theorem dX6_judgeOfNow_22 : decode cX6_judgeOfNow 22 = .ok (.aload_n 0, 1) := by decide +kernel
theorem dX6_judgeOfNow_23 : decode cX6_judgeOfNow 23 = .ok (.getfield 12, 3) := by decide +kernel
theorem dX6_judgeOfNow_26 : decode cX6_judgeOfNow 26 = .ok (.aload_n 0, 1) := by decide +kernel
theorem dX6_judgeOfNow_27 : decode cX6_judgeOfNow 27 = .ok (.getfield 26, 3) := by decide +kernel
theorem dX6_judgeOfNow_30 : decode cX6_judgeOfNow 30 = .ok (.invokevirtual 198, 3) := by decide +kernel
theorem dX6_judgeOfNow_33 : decode cX6_judgeOfNow 33 = .ok (.aload_n 0, 1) := by decide +kernel
theorem dX6_judgeOfNow_34 : decode cX6_judgeOfNow 34 = .ok (.getfield 33, 3) := by decide +kernel
theorem dX6_judgeOfNow_37 : decode cX6_judgeOfNow 37 = .ok (.areturn, 1) := by decide +kernel
theorem dX6_sings_0 : decode cX6_sings 0 = .ok (.aload_n 0, 1) := by decide +kernel
theorem dX6_sings_1 : decode cX6_sings 1 = .ok (.getfield 12, 3) := by decide +kernel
theorem dX6_sings_4 : decode cX6_sings 4 = .ok (.aload_n 0, 1) := by decide +kernel
theorem dX6_sings_5 : decode cX6_sings 5 = .ok (.getfield 56, 3) := by decide +kernel
theorem dX6_sings_8 : decode cX6_sings 8 = .ok (.invokevirtual 63, 3) := by decide +kernel
theorem dX6_sings_11 : decode cX6_sings 11 = .ok (.ifCond .eq 18, 3) := by decide +kernel
theorem dX6_sings_14 : decode cX6_sings 14 = .ok (.iload_n 1, 1) := by decide +kernel
theorem dX6_sings_15 : decode cX6_sings 15 = .ok (.ifCond .lt 14, 3) := by decide +kernel
theorem dX6_sings_18 : decode cX6_sings 18 = .ok (.iload_n 1, 1) := by decide +kernel
theorem dX6_sings_19 : decode cX6_sings 19 = .ok (.aload_n 0, 1) := by decide +kernel
theorem dX6_sings_20 : decode cX6_sings 20 = .ok (.getfield 26, 3) := by decide +kernel
theorem dX6_sings_23 : decode cX6_sings 23 = .ok (.getfield 100, 3) := by decide +kernel
theorem dX6_sings_26 : decode cX6_sings 26 = .ok (.if_icmp .lt 5, 3) := by decide +kernel
theorem dX6_sings_29 : decode cX6_sings 29 = .ok (.iconst (-1), 1) := by decide +kernel
theorem dX6_sings_30 : decode cX6_sings 30 = .ok (.ireturn, 1) := by decide +kernel
theorem dX6_sings_31 : decode cX6_sings 31 = .ok (.aload_n 0, 1) := by decide +kernel
theorem dX6_sings_32 : decode cX6_sings 32 = .ok (.getfield 12, 3) := by decide +kernel
theorem dX6_sings_35 : decode cX6_sings 35 = .ok (.getfield 97, 3) := by decide +kernel
theorem dX6_sings_38 : decode cX6_sings 38 = .ok (.aload_n 0, 1) := by decide +kernel
theorem dX6_sings_39 : decode cX6_sings 39 = .ok (.getfield 56, 3) := by decide +kernel
theorem dX6_sings_42 : decode cX6_sings 42 = .ok (.invokestatic 125, 3) := by decide +kernel
theorem dX6_sings_45 : decode cX6_sings 45 = .ok (.ifCond .eq 6, 3) := by decide +kernel
theorem dX6_sings_48 : decode cX6_sings 48 = .ok (.bipush 9, 2) := by decide +kernel
theorem dX6_sings_50 : decode cX6_sings 50 = .ok (.ireturn, 1) := by decide +kernel
theorem dX6_sings_51 : decode cX6_sings 51 = .ok (.iload_n 1, 1) := by decide +kernel
theorem dX6_sings_52 : decode cX6_sings 52 = .ok (.istore_n 2, 1) := by decide +kernel
theorem dX6_sings_53 : decode cX6_sings 53 = .ok (.iload_n 2, 1) := by decide +kernel
theorem dX6_sings_54 : decode cX6_sings 54 = .ok (.aload_n 0, 1) := by decide +kernel
theorem dX6_sings_55 : decode cX6_sings 55 = .ok (.getfield 26, 3) := by decide +kernel
theorem dX6_sings_58 : decode cX6_sings 58 = .ok (.getfield 100, 3) := by decide +kernel
theorem dX6_sings_61 : decode cX6_sings 61 = .ok (.if_icmp .ge 45, 3) := by decide +kernel
theorem dX6_sings_64 : decode cX6_sings 64 = .ok (.aload_n 0, 1) := by decide +kernel
theorem dX6_sings_65 : decode cX6_sings 65 = .ok (.getfield 26, 3) := by decide +kernel
theorem dX6_sings_68 : decode cX6_sings 68 = .ok (.iload_n 2, 1) := by decide +kernel
theorem dX6_sings_69 : decode cX6_sings 69 = .ok (.aload_n 0, 1) := by decide +kernel
theorem dX6_sings_70 : decode cX6_sings 70 = .ok (.getfield 12, 3) := by decide +kernel
theorem dX6_sings_73 : decode cX6_sings 73 = .ok (.aload_n 0, 1) := by decide +kernel
theorem dX6_sings_74 : decode cX6_sings 74 = .ok (.invokevirtual 129, 3) := by decide +kernel
theorem dX6_sings_77 : decode cX6_sings 77 = .ok (.invokevirtual 202, 3) := by decide +kernel
theorem dX6_sings_80 : decode cX6_sings 80 = .ok (.aload_n 0, 1) := by decide +kernel
theorem dX6_sings_81 : decode cX6_sings 81 = .ok (.getfield 56, 3) := by decide +kernel
theorem dX6_sings_84 : decode cX6_sings 84 = .ok (.invokestatic 125, 3) := by decide +kernel
theorem dX6_sings_87 : decode cX6_sings 87 = .ok (.ifCond .ne 13, 3) := by decide +kernel
theorem dX6_sings_90 : decode cX6_sings 90 = .ok (.aload_n 0, 1) := by decide +kernel
theorem dX6_sings_91 : decode cX6_sings 91 = .ok (.getfield 26, 3) := by decide +kernel
theorem dX6_sings_94 : decode cX6_sings 94 = .ok (.getfield 206, 3) := by decide +kernel
theorem dX6_sings_97 : decode cX6_sings 97 = .ok (.iload_n 2, 1) := by decide +kernel
theorem dX6_sings_98 : decode cX6_sings 98 = .ok (.iaload, 1) := by decide +kernel
theorem dX6_sings_99 : decode cX6_sings 99 = .ok (.ireturn, 1) := by decide +kernel
theorem dX6_sings_100 : decode cX6_sings 100 = .ok (.iinc 2 1, 3) := by decide +kernel
theorem dX6_sings_103 : decode cX6_sings 103 = .ok (.goto (-50), 3) := by decide +kernel
theorem dX6_sings_106 : decode cX6_sings 106 = .ok (.bipush 10, 2) := by decide +kernel
theorem dX6_sings_108 : decode cX6_sings 108 = .ok (.ireturn, 1) := by decide +kernel
theorem dX6_blind_0 : decode cX6_blind 0 = .ok (.iload_n 1, 1) := by decide +kernel
theorem dX6_blind_1 : decode cX6_blind 1 = .ok (.bipush 10, 2) := by decide +kernel
theorem dX6_blind_3 : decode cX6_blind 3 = .ok (.isub, 1) := by decide +kernel
theorem dX6_blind_4 : decode cX6_blind 4 = .ok (.istore_n 2, 1) := by decide +kernel
theorem dX6_blind_5 : decode cX6_blind 5 = .ok (.iload_n 1, 1) := by decide +kernel
theorem dX6_blind_6 : decode cX6_blind 6 = .ok (.bipush 10, 2) := by decide +kernel
theorem dX6_blind_8 : decode cX6_blind 8 = .ok (.if_icmp .lt 13, 3) := by decide +kernel
theorem dX6_blind_11 : decode cX6_blind 11 = .ok (.iload_n 2, 1) := by decide +kernel
theorem dX6_blind_12 : decode cX6_blind 12 = .ok (.bipush 12, 2) := by decide +kernel
theorem dX6_blind_14 : decode cX6_blind 14 = .ok (.if_icmp .ge 7, 3) := by decide +kernel
theorem dX6_blind_17 : decode cX6_blind 17 = .ok (.iconst 1, 1) := by decide +kernel
theorem dX6_blind_18 : decode cX6_blind 18 = .ok (.goto 4, 3) := by decide +kernel
theorem dX6_blind_21 : decode cX6_blind 21 = .ok (.iconst 0, 1) := by decide +kernel
theorem dX6_blind_22 : decode cX6_blind 22 = .ok (.istore_n 3, 1) := by decide +kernel
theorem dX6_blind_23 : decode cX6_blind 23 = .ok (.iload_n 1, 1) := by decide +kernel
theorem dX6_blind_24 : decode cX6_blind 24 = .ok (.ifCond .eq 10, 3) := by decide +kernel
theorem dX6_blind_27 : decode cX6_blind 27 = .ok (.iload_n 3, 1) := by decide +kernel
theorem dX6_blind_28 : decode cX6_blind 28 = .ok (.ifCond .ne 6, 3) := by decide +kernel
theorem dX6_blind_31 : decode cX6_blind 31 = .ok (.bipush (-2), 2) := by decide +kernel
theorem dX6_blind_33 : decode cX6_blind 33 = .ok (.ireturn, 1) := by decide +kernel
theorem dX6_blind_34 : decode cX6_blind 34 = .ok (.aload_n 0, 1) := by decide +kernel
theorem dX6_blind_35 : decode cX6_blind 35 = .ok (.getfield 37, 3) := by decide +kernel
theorem dX6_blind_38 : decode cX6_blind 38 = .ok (.ifnonnull 14, 3) := by decide +kernel
theorem dX6_blind_41 : decode cX6_blind 41 = .ok (.aload_n 0, 1) := by decide +kernel
theorem dX6_blind_42 : decode cX6_blind 42 = .ok (.new 209, 3) := by decide +kernel
theorem dX6_blind_45 : decode cX6_blind 45 = .ok (.dup, 1) := by decide +kernel
theorem dX6_blind_46 : decode cX6_blind 46 = .ok (.invokespecial 211, 3) := by decide +kernel
theorem dX6_blind_49 : decode cX6_blind 49 = .ok (.putfield 37, 3) := by decide +kernel
theorem dX6_blind_52 : decode cX6_blind 52 = .ok (.aload_n 0, 1) := by decide +kernel
theorem dX6_blind_53 : decode cX6_blind 53 = .ok (.getfield 37, 3) := by decide +kernel
theorem dX6_blind_56 : decode cX6_blind 56 = .ok (.aload_n 0, 1) := by decide +kernel
theorem dX6_blind_57 : decode cX6_blind 57 = .ok (.getfield 12, 3) := by decide +kernel
theorem dX6_blind_60 : decode cX6_blind 60 = .ok (.aload_n 0, 1) := by decide +kernel
theorem dX6_blind_61 : decode cX6_blind 61 = .ok (.getfield 49, 3) := by decide +kernel
theorem dX6_blind_64 : decode cX6_blind 64 = .ok (.aload_n 0, 1) := by decide +kernel
theorem dX6_blind_65 : decode cX6_blind 65 = .ok (.invokevirtual 129, 3) := by decide +kernel
theorem dX6_blind_68 : decode cX6_blind 68 = .ok (.invokevirtual 212, 3) := by decide +kernel
theorem dX6_blind_71 : decode cX6_blind 71 = .ok (.istore 4, 2) := by decide +kernel
theorem dX6_blind_73 : decode cX6_blind 73 = .ok (.iload 4, 2) := by decide +kernel
theorem dX6_blind_75 : decode cX6_blind 75 = .ok (.ifCond .lt 7, 3) := by decide +kernel
theorem dX6_blind_78 : decode cX6_blind 78 = .ok (.iload_n 1, 1) := by decide +kernel
theorem dX6_blind_79 : decode cX6_blind 79 = .ok (.ifCond .ne 6, 3) := by decide +kernel
theorem dX6_blind_82 : decode cX6_blind 82 = .ok (.iload 4, 2) := by decide +kernel
theorem dX6_blind_84 : decode cX6_blind 84 = .ok (.ireturn, 1) := by decide +kernel
theorem dX6_blind_85 : decode cX6_blind 85 = .ok (.iload_n 2, 1) := by decide +kernel
theorem dX6_blind_86 : decode cX6_blind 86 = .ok (.iload 4, 2) := by decide +kernel
theorem dX6_blind_88 : decode cX6_blind 88 = .ok (.if_icmp .ge 15, 3) := by decide +kernel
theorem dX6_blind_91 : decode cX6_blind 91 = .ok (.aload_n 0, 1) := by decide +kernel
theorem dX6_blind_92 : decode cX6_blind 92 = .ok (.getfield 37, 3) := by decide +kernel
theorem dX6_blind_95 : decode cX6_blind 95 = .ok (.getfield 216, 3) := by decide +kernel
theorem dX6_blind_98 : decode cX6_blind 98 = .ok (.iload_n 2, 1) := by decide +kernel
theorem dX6_blind_99 : decode cX6_blind 99 = .ok (.iaload, 1) := by decide +kernel
theorem dX6_blind_100 : decode cX6_blind 100 = .ok (.goto 5, 3) := by decide +kernel
theorem dX6_blind_103 : decode cX6_blind 103 = .ok (.bipush (-2), 2) := by decide +kernel
theorem dX6_blind_105 : decode cX6_blind 105 = .ok (.ireturn, 1) := by decide +kernel
theorem dX6_watchNow_0 : decode cX6_watchNow 0 = .ok (.aload_n 0, 1) := by decide +kernel
theorem dX6_watchNow_1 : decode cX6_watchNow 1 = .ok (.getfield 52, 3) := by decide +kernel
theorem dX6_watchNow_4 : decode cX6_watchNow 4 = .ok (.bipush 6, 2) := by decide +kernel
theorem dX6_watchNow_6 : decode cX6_watchNow 6 = .ok (.irem, 1) := by decide +kernel
theorem dX6_watchNow_7 : decode cX6_watchNow 7 = .ok (.ireturn, 1) := by decide +kernel
theorem dX6_isWatch_0 : decode cX6_isWatch 0 = .ok (.iload_n 0, 1) := by decide +kernel
theorem dX6_isWatch_1 : decode cX6_isWatch 1 = .ok (.ifCond .lt 13, 3) := by decide +kernel
theorem dX6_isWatch_4 : decode cX6_isWatch 4 = .ok (.iload_n 0, 1) := by decide +kernel
theorem dX6_isWatch_5 : decode cX6_isWatch 5 = .ok (.bipush 6, 2) := by decide +kernel
theorem dX6_isWatch_7 : decode cX6_isWatch 7 = .ok (.if_icmp .ge 7, 3) := by decide +kernel
theorem dX6_isWatch_10 : decode cX6_isWatch 10 = .ok (.iconst 1, 1) := by decide +kernel
theorem dX6_isWatch_11 : decode cX6_isWatch 11 = .ok (.goto 4, 3) := by decide +kernel
theorem dX6_isWatch_14 : decode cX6_isWatch 14 = .ok (.iconst 0, 1) := by decide +kernel
theorem dX6_isWatch_15 : decode cX6_isWatch 15 = .ok (.ireturn, 1) := by decide +kernel
theorem dX6_isWatchSet_0 : decode cX6_isWatchSet 0 = .ok (.iload_n 0, 1) := by decide +kernel
theorem dX6_isWatchSet_1 : decode cX6_isWatchSet 1 = .ok (.ifCond .lt 13, 3) := by decide +kernel
theorem dX6_isWatchSet_4 : decode cX6_isWatchSet 4 = .ok (.iload_n 0, 1) := by decide +kernel
theorem dX6_isWatchSet_5 : decode cX6_isWatchSet 5 = .ok (.bipush 64, 2) := by decide +kernel
theorem dX6_isWatchSet_7 : decode cX6_isWatchSet 7 = .ok (.if_icmp .ge 7, 3) := by decide +kernel
theorem dX6_isWatchSet_10 : decode cX6_isWatchSet 10 = .ok (.iconst 1, 1) := by decide +kernel
theorem dX6_isWatchSet_11 : decode cX6_isWatchSet 11 = .ok (.goto 4, 3) := by decide +kernel
theorem dX6_isWatchSet_14 : decode cX6_isWatchSet 14 = .ok (.iconst 0, 1) := by decide +kernel
theorem dX6_isWatchSet_15 : decode cX6_isWatchSet 15 = .ok (.ireturn, 1) := by decide +kernel
theorem dX6_isWay_0 : decode cX6_isWay 0 = .ok (.iload_n 0, 1) := by decide +kernel
theorem dX6_isWay_1 : decode cX6_isWay 1 = .ok (.ifCond .lt 13, 3) := by decide +kernel
theorem dX6_isWay_4 : decode cX6_isWay 4 = .ok (.iload_n 0, 1) := by decide +kernel
theorem dX6_isWay_5 : decode cX6_isWay 5 = .ok (.bipush 9, 2) := by decide +kernel
theorem dX6_isWay_7 : decode cX6_isWay 7 = .ok (.if_icmp .ge 7, 3) := by decide +kernel
theorem dX6_isWay_10 : decode cX6_isWay 10 = .ok (.iconst 1, 1) := by decide +kernel
theorem dX6_isWay_11 : decode cX6_isWay 11 = .ok (.goto 4, 3) := by decide +kernel
theorem dX6_isWay_14 : decode cX6_isWay 14 = .ok (.iconst 0, 1) := by decide +kernel
theorem dX6_isWay_15 : decode cX6_isWay 15 = .ok (.ireturn, 1) := by decide +kernel
theorem dX6_isSign_0 : decode cX6_isSign 0 = .ok (.iload_n 0, 1) := by decide +kernel
theorem dX6_isSign_1 : decode cX6_isSign 1 = .ok (.ifCond .lt 12, 3) := by decide +kernel
theorem dX6_isSign_4 : decode cX6_isSign 4 = .ok (.iload_n 0, 1) := by decide +kernel
theorem dX6_isSign_5 : decode cX6_isSign 5 = .ok (.iconst 2, 1) := by decide +kernel
theorem dX6_isSign_6 : decode cX6_isSign 6 = .ok (.if_icmp .gt 7, 3) := by decide +kernel
theorem dX6_isSign_9 : decode cX6_isSign 9 = .ok (.iconst 1, 1) := by decide +kernel
theorem dX6_isSign_10 : decode cX6_isSign 10 = .ok (.goto 4, 3) := by decide +kernel
theorem dX6_isSign_13 : decode cX6_isSign 13 = .ok (.iconst 0, 1) := by decide +kernel
theorem dX6_isSign_14 : decode cX6_isSign 14 = .ok (.ireturn, 1) := by decide +kernel
theorem dX6_has_0 : decode cX6_has 0 = .ok (.lload_n 0, 1) := by decide +kernel
theorem dX6_has_1 : decode cX6_has 1 = .ok (.iload_n 2, 1) := by decide +kernel
theorem dX6_has_2 : decode cX6_has 2 = .ok (.lushr, 1) := by decide +kernel
theorem dX6_has_3 : decode cX6_has 3 = .ok (.lconst 1, 1) := by decide +kernel
theorem dX6_has_4 : decode cX6_has 4 = .ok (.land, 1) := by decide +kernel
theorem dX6_has_5 : decode cX6_has 5 = .ok (.lconst 0, 1) := by decide +kernel
theorem dX6_has_6 : decode cX6_has 6 = .ok (.lcmp, 1) := by decide +kernel
theorem dX6_has_7 : decode cX6_has 7 = .ok (.ifCond .eq 7, 3) := by decide +kernel
theorem dX6_has_10 : decode cX6_has 10 = .ok (.iconst 1, 1) := by decide +kernel
theorem dX6_has_11 : decode cX6_has 11 = .ok (.goto 4, 3) := by decide +kernel
theorem dX6_has_14 : decode cX6_has 14 = .ok (.iconst 0, 1) := by decide +kernel
theorem dX6_has_15 : decode cX6_has 15 = .ok (.ireturn, 1) := by decide +kernel
theorem dX7_init_0 : decode cX7_init 0 = .ok (.aload_n 0, 1) := by decide +kernel
theorem dX7_init_1 : decode cX7_init 1 = .ok (.invokespecial 1, 3) := by decide +kernel
theorem dX7_init_4 : decode cX7_init 4 = .ok (.aload_n 0, 1) := by decide +kernel
theorem dX7_init_5 : decode cX7_init 5 = .ok (.iconst 4, 1) := by decide +kernel
theorem dX7_init_6 : decode cX7_init 6 = .ok (.putfield 7, 3) := by decide +kernel
