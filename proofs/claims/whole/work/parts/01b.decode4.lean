theorem dX7_readText_38 : decode cX7_readText 38 = .ok (.aload_n 0, 1) := by decide +kernel
theorem dX7_readText_39 : decode cX7_readText 39 = .ok (.iconst 1, 1) := by decide +kernel
theorem dX7_readText_40 : decode cX7_readText 40 = .ok (.invokevirtual 188, 3) := by decide +kernel
theorem dX7_readText_43 : decode cX7_readText 43 = .ok (.ifCond .eq 7, 3) := by decide +kernel
theorem dX7_readText_46 : decode cX7_readText 46 = .ok (.iconst 1, 1) := by decide +kernel
theorem dX7_readText_47 : decode cX7_readText 47 = .ok (.goto 4, 3) := by decide +kernel
theorem dX7_readText_50 : decode cX7_readText 50 = .ok (.iconst 0, 1) := by decide +kernel
theorem dX7_readText_51 : decode cX7_readText 51 = .ok (.ireturn, 1) := by decide +kernel
theorem dX7_chant_0 : decode cX7_chant 0 = .ok (.aload_n 0, 1) := by decide +kernel
theorem dX7_chant_1 : decode cX7_chant 1 = .ok (.iconst 0, 1) := by decide +kernel
theorem dX7_chant_2 : decode cX7_chant 2 = .ok (.putfield 87, 3) := by decide +kernel
theorem dX7_chant_5 : decode cX7_chant 5 = .ok (.aload_n 0, 1) := by decide +kernel
theorem dX7_chant_6 : decode cX7_chant 6 = .ok (.invokevirtual 205, 3) := by decide +kernel
theorem dX7_chant_9 : decode cX7_chant 9 = .ok (.istore_n 1, 1) := by decide +kernel
theorem dX7_chant_10 : decode cX7_chant 10 = .ok (.aload_n 0, 1) := by decide +kernel
theorem dX7_chant_11 : decode cX7_chant 11 = .ok (.iconst 0, 1) := by decide +kernel
theorem dX7_chant_12 : decode cX7_chant 12 = .ok (.putfield 152, 3) := by decide +kernel
theorem dX7_chant_15 : decode cX7_chant 15 = .ok (.iload_n 1, 1) := by decide +kernel
theorem dX7_chant_16 : decode cX7_chant 16 = .ok (.ifCond .ne 5, 3) := by decide +kernel
theorem dX7_chant_19 : decode cX7_chant 19 = .ok (.iconst (-1), 1) := by decide +kernel
theorem dX7_chant_20 : decode cX7_chant 20 = .ok (.ireturn, 1) := by decide +kernel
theorem dX7_chant_21 : decode cX7_chant 21 = .ok (.aload_n 0, 1) := by decide +kernel
theorem dX7_chant_22 : decode cX7_chant 22 = .ok (.iconst 0, 1) := by decide +kernel
theorem dX7_chant_23 : decode cX7_chant 23 = .ok (.putfield 159, 3) := by decide +kernel
theorem dX7_chant_26 : decode cX7_chant 26 = .ok (.aload_n 0, 1) := by decide +kernel
theorem dX7_chant_27 : decode cX7_chant 27 = .ok (.iconst (-1), 1) := by decide +kernel
theorem dX7_chant_28 : decode cX7_chant 28 = .ok (.putfield 62, 3) := by decide +kernel
theorem dX7_chant_31 : decode cX7_chant 31 = .ok (.aload_n 0, 1) := by decide +kernel
theorem dX7_chant_32 : decode cX7_chant 32 = .ok (.aload_n 0, 1) := by decide +kernel
theorem dX7_chant_33 : decode cX7_chant 33 = .ok (.getfield 191, 3) := by decide +kernel
theorem dX7_chant_36 : decode cX7_chant 36 = .ok (.putfield 127, 3) := by decide +kernel
theorem dX7_chant_39 : decode cX7_chant 39 = .ok (.iconst 0, 1) := by decide +kernel
theorem dX7_chant_40 : decode cX7_chant 40 = .ok (.istore_n 2, 1) := by decide +kernel
theorem dX7_chant_41 : decode cX7_chant 41 = .ok (.iload_n 2, 1) := by decide +kernel
theorem dX7_chant_42 : decode cX7_chant 42 = .ok (.aload_n 0, 1) := by decide +kernel
theorem dX7_chant_43 : decode cX7_chant 43 = .ok (.getfield 127, 3) := by decide +kernel
theorem dX7_chant_46 : decode cX7_chant 46 = .ok (.if_icmp .ge 57, 3) := by decide +kernel
theorem dX7_chant_49 : decode cX7_chant 49 = .ok (.aload_n 0, 1) := by decide +kernel
theorem dX7_chant_50 : decode cX7_chant 50 = .ok (.getfield 35, 3) := by decide +kernel
theorem dX7_chant_53 : decode cX7_chant 53 = .ok (.iload_n 2, 1) := by decide +kernel
theorem dX7_chant_54 : decode cX7_chant 54 = .ok (.aload_n 0, 1) := by decide +kernel
theorem dX7_chant_55 : decode cX7_chant 55 = .ok (.getfield 47, 3) := by decide +kernel
theorem dX7_chant_58 : decode cX7_chant 58 = .ok (.iload_n 2, 1) := by decide +kernel
theorem dX7_chant_59 : decode cX7_chant 59 = .ok (.iaload, 1) := by decide +kernel
theorem dX7_chant_60 : decode cX7_chant 60 = .ok (.iastore, 1) := by decide +kernel
theorem dX7_chant_61 : decode cX7_chant 61 = .ok (.aload_n 0, 1) := by decide +kernel
theorem dX7_chant_62 : decode cX7_chant 62 = .ok (.getfield 38, 3) := by decide +kernel
theorem dX7_chant_65 : decode cX7_chant 65 = .ok (.iload_n 2, 1) := by decide +kernel
theorem dX7_chant_66 : decode cX7_chant 66 = .ok (.aload_n 0, 1) := by decide +kernel
theorem dX7_chant_67 : decode cX7_chant 67 = .ok (.getfield 50, 3) := by decide +kernel
theorem dX7_chant_70 : decode cX7_chant 70 = .ok (.iload_n 2, 1) := by decide +kernel
theorem dX7_chant_71 : decode cX7_chant 71 = .ok (.iaload, 1) := by decide +kernel
theorem dX7_chant_72 : decode cX7_chant 72 = .ok (.iastore, 1) := by decide +kernel
theorem dX7_chant_73 : decode cX7_chant 73 = .ok (.aload_n 0, 1) := by decide +kernel
theorem dX7_chant_74 : decode cX7_chant 74 = .ok (.getfield 41, 3) := by decide +kernel
theorem dX7_chant_77 : decode cX7_chant 77 = .ok (.iload_n 2, 1) := by decide +kernel
theorem dX7_chant_78 : decode cX7_chant 78 = .ok (.aload_n 0, 1) := by decide +kernel
theorem dX7_chant_79 : decode cX7_chant 79 = .ok (.getfield 53, 3) := by decide +kernel
theorem dX7_chant_82 : decode cX7_chant 82 = .ok (.iload_n 2, 1) := by decide +kernel
theorem dX7_chant_83 : decode cX7_chant 83 = .ok (.iaload, 1) := by decide +kernel
theorem dX7_chant_84 : decode cX7_chant 84 = .ok (.iastore, 1) := by decide +kernel
theorem dX7_chant_85 : decode cX7_chant 85 = .ok (.aload_n 0, 1) := by decide +kernel
theorem dX7_chant_86 : decode cX7_chant 86 = .ok (.getfield 44, 3) := by decide +kernel
theorem dX7_chant_89 : decode cX7_chant 89 = .ok (.iload_n 2, 1) := by decide +kernel
theorem dX7_chant_90 : decode cX7_chant 90 = .ok (.aload_n 0, 1) := by decide +kernel
theorem dX7_chant_91 : decode cX7_chant 91 = .ok (.getfield 56, 3) := by decide +kernel
theorem dX7_chant_94 : decode cX7_chant 94 = .ok (.iload_n 2, 1) := by decide +kernel
theorem dX7_chant_95 : decode cX7_chant 95 = .ok (.iaload, 1) := by decide +kernel
theorem dX7_chant_96 : decode cX7_chant 96 = .ok (.iastore, 1) := by decide +kernel
theorem dX7_chant_97 : decode cX7_chant 97 = .ok (.iinc 2 1, 3) := by decide +kernel
theorem dX7_chant_100 : decode cX7_chant 100 = .ok (.goto (-59), 3) := by decide +kernel
theorem dX7_chant_103 : decode cX7_chant 103 = .ok (.aload_n 0, 1) := by decide +kernel
theorem dX7_chant_104 : decode cX7_chant 104 = .ok (.getfield 127, 3) := by decide +kernel
theorem dX7_chant_107 : decode cX7_chant 107 = .ok (.ireturn, 1) := by decide +kernel
theorem dX7_isThere_0 : decode cX7_isThere 0 = .ok (.aload_n 0, 1) := by decide +kernel
theorem dX7_isThere_1 : decode cX7_isThere 1 = .ok (.getfield 38, 3) := by decide +kernel
theorem dX7_isThere_4 : decode cX7_isThere 4 = .ok (.iload_n 1, 1) := by decide +kernel
theorem dX7_isThere_5 : decode cX7_isThere 5 = .ok (.iaload, 1) := by decide +kernel
theorem dX7_isThere_6 : decode cX7_isThere 6 = .ok (.iconst 5, 1) := by decide +kernel
theorem dX7_isThere_7 : decode cX7_isThere 7 = .ok (.if_icmp .ne 20, 3) := by decide +kernel
theorem dX7_isThere_10 : decode cX7_isThere 10 = .ok (.aload_n 0, 1) := by decide +kernel
theorem dX7_isThere_11 : decode cX7_isThere 11 = .ok (.iload_n 2, 1) := by decide +kernel
theorem dX7_isThere_12 : decode cX7_isThere 12 = .ok (.iload_n 3, 1) := by decide +kernel
theorem dX7_isThere_13 : decode cX7_isThere 13 = .ok (.iconst 2, 1) := by decide +kernel
theorem dX7_isThere_14 : decode cX7_isThere 14 = .ok (.invokevirtual 145, 3) := by decide +kernel
theorem dX7_isThere_17 : decode cX7_isThere 17 = .ok (.iconst 1, 1) := by decide +kernel
theorem dX7_isThere_18 : decode cX7_isThere 18 = .ok (.if_icmp .ne 7, 3) := by decide +kernel
theorem dX7_isThere_21 : decode cX7_isThere 21 = .ok (.iconst 1, 1) := by decide +kernel
theorem dX7_isThere_22 : decode cX7_isThere 22 = .ok (.goto 4, 3) := by decide +kernel
theorem dX7_isThere_25 : decode cX7_isThere 25 = .ok (.iconst 0, 1) := by decide +kernel
theorem dX7_isThere_26 : decode cX7_isThere 26 = .ok (.ireturn, 1) := by decide +kernel
theorem dX7_isThere_27 : decode cX7_isThere 27 = .ok (.aload_n 0, 1) := by decide +kernel
theorem dX7_isThere_28 : decode cX7_isThere 28 = .ok (.getfield 38, 3) := by decide +kernel
theorem dX7_isThere_31 : decode cX7_isThere 31 = .ok (.iload_n 1, 1) := by decide +kernel
theorem dX7_isThere_32 : decode cX7_isThere 32 = .ok (.iaload, 1) := by decide +kernel
theorem dX7_isThere_33 : decode cX7_isThere 33 = .ok (.bipush 6, 2) := by decide +kernel
theorem dX7_isThere_35 : decode cX7_isThere 35 = .ok (.if_icmp .ne 25, 3) := by decide +kernel
theorem dX7_isThere_38 : decode cX7_isThere 38 = .ok (.aload_n 0, 1) := by decide +kernel
theorem dX7_isThere_39 : decode cX7_isThere 39 = .ok (.iload_n 2, 1) := by decide +kernel
theorem dX7_isThere_40 : decode cX7_isThere 40 = .ok (.iload_n 3, 1) := by decide +kernel
theorem dX7_isThere_41 : decode cX7_isThere 41 = .ok (.iconst 0, 1) := by decide +kernel
theorem dX7_isThere_42 : decode cX7_isThere 42 = .ok (.invokevirtual 145, 3) := by decide +kernel
theorem dX7_isThere_45 : decode cX7_isThere 45 = .ok (.aload_n 0, 1) := by decide +kernel
theorem dX7_isThere_46 : decode cX7_isThere 46 = .ok (.getfield 41, 3) := by decide +kernel
theorem dX7_isThere_49 : decode cX7_isThere 49 = .ok (.iload_n 1, 1) := by decide +kernel
theorem dX7_isThere_50 : decode cX7_isThere 50 = .ok (.iaload, 1) := by decide +kernel
theorem dX7_isThere_51 : decode cX7_isThere 51 = .ok (.if_icmp .ne 7, 3) := by decide +kernel
theorem dX7_isThere_54 : decode cX7_isThere 54 = .ok (.iconst 1, 1) := by decide +kernel
theorem dX7_isThere_55 : decode cX7_isThere 55 = .ok (.goto 4, 3) := by decide +kernel
theorem dX7_isThere_58 : decode cX7_isThere 58 = .ok (.iconst 0, 1) := by decide +kernel
theorem dX7_isThere_59 : decode cX7_isThere 59 = .ok (.ireturn, 1) := by decide +kernel
theorem dX7_isThere_60 : decode cX7_isThere 60 = .ok (.aload_n 0, 1) := by decide +kernel
theorem dX7_isThere_61 : decode cX7_isThere 61 = .ok (.getfield 38, 3) := by decide +kernel
theorem dX7_isThere_64 : decode cX7_isThere 64 = .ok (.iload_n 1, 1) := by decide +kernel
theorem dX7_isThere_65 : decode cX7_isThere 65 = .ok (.iaload, 1) := by decide +kernel
theorem dX7_isThere_66 : decode cX7_isThere 66 = .ok (.bipush 7, 2) := by decide +kernel
theorem dX7_isThere_68 : decode cX7_isThere 68 = .ok (.if_icmp .ne 23, 3) := by decide +kernel
theorem dX7_isThere_71 : decode cX7_isThere 71 = .ok (.aload_n 0, 1) := by decide +kernel
theorem dX7_isThere_72 : decode cX7_isThere 72 = .ok (.iload_n 2, 1) := by decide +kernel
theorem dX7_isThere_73 : decode cX7_isThere 73 = .ok (.iload_n 3, 1) := by decide +kernel
theorem dX7_isThere_74 : decode cX7_isThere 74 = .ok (.iconst 1, 1) := by decide +kernel
theorem dX7_isThere_75 : decode cX7_isThere 75 = .ok (.invokevirtual 145, 3) := by decide +kernel
theorem dX7_isThere_78 : decode cX7_isThere 78 = .ok (.aload_n 0, 1) := by decide +kernel
theorem dX7_isThere_79 : decode cX7_isThere 79 = .ok (.getfield 41, 3) := by decide +kernel
theorem dX7_isThere_82 : decode cX7_isThere 82 = .ok (.iload_n 1, 1) := by decide +kernel
theorem dX7_isThere_83 : decode cX7_isThere 83 = .ok (.iaload, 1) := by decide +kernel
theorem dX7_isThere_84 : decode cX7_isThere 84 = .ok (.if_icmp .ne 7, 3) := by decide +kernel
theorem dX7_isThere_87 : decode cX7_isThere 87 = .ok (.iconst 1, 1) := by decide +kernel
theorem dX7_isThere_88 : decode cX7_isThere 88 = .ok (.goto 4, 3) := by decide +kernel
theorem dX7_isThere_91 : decode cX7_isThere 91 = .ok (.iconst 0, 1) := by decide +kernel
theorem dX7_isThere_92 : decode cX7_isThere 92 = .ok (.ireturn, 1) := by decide +kernel
theorem dX7_at_0 : decode cX7_at 0 = .ok (.sipush 384, 3) := by decide +kernel
theorem dX7_at_3 : decode cX7_at 3 = .ok (.iload_n 1, 1) := by decide +kernel
theorem dX7_at_4 : decode cX7_at 4 = .ok (.imul, 1) := by decide +kernel
theorem dX7_at_5 : decode cX7_at 5 = .ok (.bipush 6, 2) := by decide +kernel
theorem dX7_at_7 : decode cX7_at 7 = .ok (.iload_n 2, 1) := by decide +kernel
theorem dX7_at_8 : decode cX7_at 8 = .ok (.imul, 1) := by decide +kernel
theorem dX7_at_9 : decode cX7_at 9 = .ok (.iadd, 1) := by decide +kernel
theorem dX7_at_10 : decode cX7_at 10 = .ok (.iload_n 3, 1) := by decide +kernel
theorem dX7_at_11 : decode cX7_at 11 = .ok (.iadd, 1) := by decide +kernel
theorem dX7_at_12 : decode cX7_at 12 = .ok (.ireturn, 1) := by decide +kernel
theorem dX7_sing_0 : decode cX7_sing 0 = .ok (.iconst 0, 1) := by decide +kernel
theorem dX7_sing_1 : decode cX7_sing 1 = .ok (.istore_n 1, 1) := by decide +kernel
theorem dX7_sing_2 : decode cX7_sing 2 = .ok (.iload_n 1, 1) := by decide +kernel
theorem dX7_sing_3 : decode cX7_sing 3 = .ok (.aload_n 0, 1) := by decide +kernel
theorem dX7_sing_4 : decode cX7_sing 4 = .ok (.invokevirtual 90, 3) := by decide +kernel
theorem dX7_sing_7 : decode cX7_sing 7 = .ok (.if_icmp .ge 75, 3) := by decide +kernel
theorem dX7_sing_10 : decode cX7_sing 10 = .ok (.iconst 0, 1) := by decide +kernel
theorem dX7_sing_11 : decode cX7_sing 11 = .ok (.istore_n 2, 1) := by decide +kernel
theorem dX7_sing_12 : decode cX7_sing 12 = .ok (.iload_n 2, 1) := by decide +kernel
theorem dX7_sing_13 : decode cX7_sing 13 = .ok (.bipush 6, 2) := by decide +kernel
theorem dX7_sing_15 : decode cX7_sing 15 = .ok (.if_icmp .ge 61, 3) := by decide +kernel
theorem dX7_sing_18 : decode cX7_sing 18 = .ok (.aload_n 0, 1) := by decide +kernel
theorem dX7_sing_19 : decode cX7_sing 19 = .ok (.getfield 65, 3) := by decide +kernel
theorem dX7_sing_22 : decode cX7_sing 22 = .ok (.aload_n 0, 1) := by decide +kernel
theorem dX7_sing_23 : decode cX7_sing 23 = .ok (.iconst 0, 1) := by decide +kernel
theorem dX7_sing_24 : decode cX7_sing 24 = .ok (.iload_n 1, 1) := by decide +kernel
theorem dX7_sing_25 : decode cX7_sing 25 = .ok (.iload_n 2, 1) := by decide +kernel
theorem dX7_sing_26 : decode cX7_sing 26 = .ok (.invokevirtual 208, 3) := by decide +kernel
theorem dX7_sing_29 : decode cX7_sing 29 = .ok (.aload_n 0, 1) := by decide +kernel
theorem dX7_sing_30 : decode cX7_sing 30 = .ok (.iload_n 1, 1) := by decide +kernel
theorem dX7_sing_31 : decode cX7_sing 31 = .ok (.invokevirtual 117, 3) := by decide +kernel
theorem dX7_sing_34 : decode cX7_sing 34 = .ok (.ifCond .eq 7, 3) := by decide +kernel
theorem dX7_sing_37 : decode cX7_sing 37 = .ok (.iconst 0, 1) := by decide +kernel
theorem dX7_sing_38 : decode cX7_sing 38 = .ok (.goto 5, 3) := by decide +kernel
theorem dX7_sing_41 : decode cX7_sing 41 = .ok (.ldc 211, 2) := by decide +kernel
theorem dX7_sing_43 : decode cX7_sing 43 = .ok (.iastore, 1) := by decide +kernel
theorem dX7_sing_44 : decode cX7_sing 44 = .ok (.aload_n 0, 1) := by decide +kernel
theorem dX7_sing_45 : decode cX7_sing 45 = .ok (.getfield 68, 3) := by decide +kernel
theorem dX7_sing_48 : decode cX7_sing 48 = .ok (.aload_n 0, 1) := by decide +kernel
theorem dX7_sing_49 : decode cX7_sing 49 = .ok (.iconst 0, 1) := by decide +kernel
theorem dX7_sing_50 : decode cX7_sing 50 = .ok (.iload_n 1, 1) := by decide +kernel
theorem dX7_sing_51 : decode cX7_sing 51 = .ok (.iload_n 2, 1) := by decide +kernel
theorem dX7_sing_52 : decode cX7_sing 52 = .ok (.invokevirtual 208, 3) := by decide +kernel
theorem dX7_sing_55 : decode cX7_sing 55 = .ok (.aload_n 0, 1) := by decide +kernel
theorem dX7_sing_56 : decode cX7_sing 56 = .ok (.iload_n 1, 1) := by decide +kernel
theorem dX7_sing_57 : decode cX7_sing 57 = .ok (.invokevirtual 117, 3) := by decide +kernel
theorem dX7_sing_60 : decode cX7_sing 60 = .ok (.ifCond .eq 7, 3) := by decide +kernel
theorem dX7_sing_63 : decode cX7_sing 63 = .ok (.iconst 0, 1) := by decide +kernel
theorem dX7_sing_64 : decode cX7_sing 64 = .ok (.goto 5, 3) := by decide +kernel
theorem dX7_sing_67 : decode cX7_sing 67 = .ok (.ldc 211, 2) := by decide +kernel
theorem dX7_sing_69 : decode cX7_sing 69 = .ok (.iastore, 1) := by decide +kernel
theorem dX7_sing_70 : decode cX7_sing 70 = .ok (.iinc 2 1, 3) := by decide +kernel
theorem dX7_sing_73 : decode cX7_sing 73 = .ok (.goto (-61), 3) := by decide +kernel
theorem dX7_sing_76 : decode cX7_sing 76 = .ok (.iinc 1 1, 3) := by decide +kernel
theorem dX7_sing_79 : decode cX7_sing 79 = .ok (.goto (-77), 3) := by decide +kernel
theorem dX7_sing_82 : decode cX7_sing 82 = .ok (.aload_n 0, 1) := by decide +kernel
theorem dX7_sing_83 : decode cX7_sing 83 = .ok (.getfield 127, 3) := by decide +kernel
theorem dX7_sing_86 : decode cX7_sing 86 = .ok (.iconst 1, 1) := by decide +kernel
theorem dX7_sing_87 : decode cX7_sing 87 = .ok (.isub, 1) := by decide +kernel
theorem dX7_sing_88 : decode cX7_sing 88 = .ok (.istore_n 1, 1) := by decide +kernel
theorem dX7_sing_89 : decode cX7_sing 89 = .ok (.iload_n 1, 1) := by decide +kernel
theorem dX7_sing_90 : decode cX7_sing 90 = .ok (.ifCond .lt 114, 3) := by decide +kernel
theorem dX7_sing_93 : decode cX7_sing 93 = .ok (.aload_n 0, 1) := by decide +kernel
theorem dX7_sing_94 : decode cX7_sing 94 = .ok (.getfield 44, 3) := by decide +kernel
theorem dX7_sing_97 : decode cX7_sing 97 = .ok (.iload_n 1, 1) := by decide +kernel
theorem dX7_sing_98 : decode cX7_sing 98 = .ok (.iaload, 1) := by decide +kernel
theorem dX7_sing_99 : decode cX7_sing 99 = .ok (.istore_n 2, 1) := by decide +kernel
theorem dX7_sing_100 : decode cX7_sing 100 = .ok (.iload_n 2, 1) := by decide +kernel
theorem dX7_sing_101 : decode cX7_sing 101 = .ok (.ifCond .lt 50, 3) := by decide +kernel
theorem dX7_sing_104 : decode cX7_sing 104 = .ok (.iconst 0, 1) := by decide +kernel
theorem dX7_sing_105 : decode cX7_sing 105 = .ok (.istore_n 3, 1) := by decide +kernel
theorem dX7_sing_106 : decode cX7_sing 106 = .ok (.iload_n 3, 1) := by decide +kernel
theorem dX7_sing_107 : decode cX7_sing 107 = .ok (.aload_n 0, 1) := by decide +kernel
theorem dX7_sing_108 : decode cX7_sing 108 = .ok (.invokevirtual 90, 3) := by decide +kernel
theorem dX7_sing_111 : decode cX7_sing 111 = .ok (.if_icmp .ge 34, 3) := by decide +kernel
theorem dX7_sing_114 : decode cX7_sing 114 = .ok (.iconst 0, 1) := by decide +kernel
theorem dX7_sing_115 : decode cX7_sing 115 = .ok (.istore 4, 2) := by decide +kernel
theorem dX7_sing_117 : decode cX7_sing 117 = .ok (.iload 4, 2) := by decide +kernel
theorem dX7_sing_119 : decode cX7_sing 119 = .ok (.bipush 6, 2) := by decide +kernel
theorem dX7_sing_121 : decode cX7_sing 121 = .ok (.if_icmp .ge 18, 3) := by decide +kernel
theorem dX7_sing_124 : decode cX7_sing 124 = .ok (.aload_n 0, 1) := by decide +kernel
theorem dX7_sing_125 : decode cX7_sing 125 = .ok (.iload_n 1, 1) := by decide +kernel
theorem dX7_sing_126 : decode cX7_sing 126 = .ok (.iload_n 2, 1) := by decide +kernel
theorem dX7_sing_127 : decode cX7_sing 127 = .ok (.iload_n 3, 1) := by decide +kernel
theorem dX7_sing_128 : decode cX7_sing 128 = .ok (.iload 4, 2) := by decide +kernel
theorem dX7_sing_130 : decode cX7_sing 130 = .ok (.invokevirtual 212, 3) := by decide +kernel
theorem dX7_sing_133 : decode cX7_sing 133 = .ok (.iinc 4 1, 3) := by decide +kernel
theorem dX7_sing_136 : decode cX7_sing 136 = .ok (.goto (-19), 3) := by decide +kernel
theorem dX7_sing_139 : decode cX7_sing 139 = .ok (.iinc 3 1, 3) := by decide +kernel
theorem dX7_sing_142 : decode cX7_sing 142 = .ok (.goto (-36), 3) := by decide +kernel
theorem dX7_sing_145 : decode cX7_sing 145 = .ok (.iinc 2 (-1), 3) := by decide +kernel
theorem dX7_sing_148 : decode cX7_sing 148 = .ok (.goto (-48), 3) := by decide +kernel
theorem dX7_sing_151 : decode cX7_sing 151 = .ok (.iconst 0, 1) := by decide +kernel
theorem dX7_sing_152 : decode cX7_sing 152 = .ok (.istore_n 2, 1) := by decide +kernel
theorem dX7_sing_153 : decode cX7_sing 153 = .ok (.iload_n 2, 1) := by decide +kernel
theorem dX7_sing_154 : decode cX7_sing 154 = .ok (.sipush 384, 3) := by decide +kernel
theorem dX7_sing_157 : decode cX7_sing 157 = .ok (.if_icmp .ge 41, 3) := by decide +kernel
theorem dX7_sing_160 : decode cX7_sing 160 = .ok (.aload_n 0, 1) := by decide +kernel
theorem dX7_sing_161 : decode cX7_sing 161 = .ok (.getfield 65, 3) := by decide +kernel
theorem dX7_sing_164 : decode cX7_sing 164 = .ok (.iload_n 2, 1) := by decide +kernel
theorem dX7_sing_165 : decode cX7_sing 165 = .ok (.aload_n 0, 1) := by decide +kernel
theorem dX7_sing_166 : decode cX7_sing 166 = .ok (.getfield 65, 3) := by decide +kernel
theorem dX7_sing_169 : decode cX7_sing 169 = .ok (.sipush 384, 3) := by decide +kernel
theorem dX7_sing_172 : decode cX7_sing 172 = .ok (.iload_n 2, 1) := by decide +kernel
theorem dX7_sing_173 : decode cX7_sing 173 = .ok (.iadd, 1) := by decide +kernel
theorem dX7_sing_174 : decode cX7_sing 174 = .ok (.iaload, 1) := by decide +kernel
theorem dX7_sing_175 : decode cX7_sing 175 = .ok (.iastore, 1) := by decide +kernel
theorem dX7_sing_176 : decode cX7_sing 176 = .ok (.aload_n 0, 1) := by decide +kernel
theorem dX7_sing_177 : decode cX7_sing 177 = .ok (.getfield 68, 3) := by decide +kernel
theorem dX7_sing_180 : decode cX7_sing 180 = .ok (.iload_n 2, 1) := by decide +kernel
theorem dX7_sing_181 : decode cX7_sing 181 = .ok (.aload_n 0, 1) := by decide +kernel
theorem dX7_sing_182 : decode cX7_sing 182 = .ok (.getfield 68, 3) := by decide +kernel
theorem dX7_sing_185 : decode cX7_sing 185 = .ok (.sipush 384, 3) := by decide +kernel
theorem dX7_sing_188 : decode cX7_sing 188 = .ok (.iload_n 2, 1) := by decide +kernel
theorem dX7_sing_189 : decode cX7_sing 189 = .ok (.iadd, 1) := by decide +kernel
theorem dX7_sing_190 : decode cX7_sing 190 = .ok (.iaload, 1) := by decide +kernel
theorem dX7_sing_191 : decode cX7_sing 191 = .ok (.iastore, 1) := by decide +kernel
theorem dX7_sing_192 : decode cX7_sing 192 = .ok (.iinc 2 1, 3) := by decide +kernel
theorem dX7_sing_195 : decode cX7_sing 195 = .ok (.goto (-42), 3) := by decide +kernel
theorem dX7_sing_198 : decode cX7_sing 198 = .ok (.iinc 1 (-1), 3) := by decide +kernel
theorem dX7_sing_201 : decode cX7_sing 201 = .ok (.goto (-112), 3) := by decide +kernel
theorem dX7_sing_204 : decode cX7_sing 204 = .ok (.return_, 1) := by decide +kernel
theorem dX7_step_0 : decode cX7_step 0 = .ok (.aload_n 0, 1) := by decide +kernel
theorem dX7_step_1 : decode cX7_step 1 = .ok (.iload_n 2, 1) := by decide +kernel
theorem dX7_step_2 : decode cX7_step 2 = .ok (.iconst 1, 1) := by decide +kernel
theorem dX7_step_3 : decode cX7_step 3 = .ok (.iadd, 1) := by decide +kernel
theorem dX7_step_4 : decode cX7_step 4 = .ok (.iload_n 3, 1) := by decide +kernel
theorem dX7_step_5 : decode cX7_step 5 = .ok (.iload 4, 2) := by decide +kernel
theorem dX7_step_7 : decode cX7_step 7 = .ok (.invokevirtual 208, 3) := by decide +kernel
theorem dX7_step_10 : decode cX7_step 10 = .ok (.istore 5, 2) := by decide +kernel
theorem dX7_step_12 : decode cX7_step 12 = .ok (.aload_n 0, 1) := by decide +kernel
theorem dX7_step_13 : decode cX7_step 13 = .ok (.iload_n 3, 1) := by decide +kernel
theorem dX7_step_14 : decode cX7_step 14 = .ok (.invokevirtual 117, 3) := by decide +kernel
theorem dX7_step_17 : decode cX7_step 17 = .ok (.ifCond .eq 20, 3) := by decide +kernel
theorem dX7_step_20 : decode cX7_step 20 = .ok (.aload_n 0, 1) := by decide +kernel
theorem dX7_step_21 : decode cX7_step 21 = .ok (.getfield 65, 3) := by decide +kernel
theorem dX7_step_24 : decode cX7_step 24 = .ok (.iload 5, 2) := by decide +kernel
theorem dX7_step_26 : decode cX7_step 26 = .ok (.iconst 0, 1) := by decide +kernel
theorem dX7_step_27 : decode cX7_step 27 = .ok (.iastore, 1) := by decide +kernel
theorem dX7_step_28 : decode cX7_step 28 = .ok (.aload_n 0, 1) := by decide +kernel
theorem dX7_step_29 : decode cX7_step 29 = .ok (.getfield 68, 3) := by decide +kernel
theorem dX7_step_32 : decode cX7_step 32 = .ok (.iload 5, 2) := by decide +kernel
theorem dX7_step_34 : decode cX7_step 34 = .ok (.iconst 0, 1) := by decide +kernel
theorem dX7_step_35 : decode cX7_step 35 = .ok (.iastore, 1) := by decide +kernel
theorem dX7_step_36 : decode cX7_step 36 = .ok (.return_, 1) := by decide +kernel
theorem dX7_step_37 : decode cX7_step 37 = .ok (.iload_n 2, 1) := by decide +kernel
theorem dX7_step_38 : decode cX7_step 38 = .ok (.aload_n 0, 1) := by decide +kernel
theorem dX7_step_39 : decode cX7_step 39 = .ok (.getfield 44, 3) := by decide +kernel
theorem dX7_step_42 : decode cX7_step 42 = .ok (.iload_n 1, 1) := by decide +kernel
theorem dX7_step_43 : decode cX7_step 43 = .ok (.iaload, 1) := by decide +kernel
theorem dX7_step_44 : decode cX7_step 44 = .ok (.if_icmp .eq 14, 3) := by decide +kernel
theorem dX7_step_47 : decode cX7_step 47 = .ok (.aload_n 0, 1) := by decide +kernel
theorem dX7_step_48 : decode cX7_step 48 = .ok (.iload_n 1, 1) := by decide +kernel
theorem dX7_step_49 : decode cX7_step 49 = .ok (.iload_n 3, 1) := by decide +kernel
theorem dX7_step_50 : decode cX7_step 50 = .ok (.iload 4, 2) := by decide +kernel
theorem dX7_step_52 : decode cX7_step 52 = .ok (.invokevirtual 216, 3) := by decide +kernel
theorem dX7_step_55 : decode cX7_step 55 = .ok (.ifCond .eq 44, 3) := by decide +kernel
theorem dX7_step_58 : decode cX7_step 58 = .ok (.aload_n 0, 1) := by decide +kernel
theorem dX7_step_59 : decode cX7_step 59 = .ok (.getfield 65, 3) := by decide +kernel
theorem dX7_step_62 : decode cX7_step 62 = .ok (.iload 5, 2) := by decide +kernel
theorem dX7_step_64 : decode cX7_step 64 = .ok (.aload_n 0, 1) := by decide +kernel
theorem dX7_step_65 : decode cX7_step 65 = .ok (.getfield 65, 3) := by decide +kernel
theorem dX7_step_68 : decode cX7_step 68 = .ok (.aload_n 0, 1) := by decide +kernel
theorem dX7_step_69 : decode cX7_step 69 = .ok (.iconst 0, 1) := by decide +kernel
theorem dX7_step_70 : decode cX7_step 70 = .ok (.iload_n 3, 1) := by decide +kernel
theorem dX7_step_71 : decode cX7_step 71 = .ok (.iload 4, 2) := by decide +kernel
theorem dX7_step_73 : decode cX7_step 73 = .ok (.invokevirtual 208, 3) := by decide +kernel
theorem dX7_step_76 : decode cX7_step 76 = .ok (.iaload, 1) := by decide +kernel
theorem dX7_step_77 : decode cX7_step 77 = .ok (.iastore, 1) := by decide +kernel
theorem dX7_step_78 : decode cX7_step 78 = .ok (.aload_n 0, 1) := by decide +kernel
theorem dX7_step_79 : decode cX7_step 79 = .ok (.getfield 68, 3) := by decide +kernel
theorem dX7_step_82 : decode cX7_step 82 = .ok (.iload 5, 2) := by decide +kernel
theorem dX7_step_84 : decode cX7_step 84 = .ok (.aload_n 0, 1) := by decide +kernel
theorem dX7_step_85 : decode cX7_step 85 = .ok (.getfield 68, 3) := by decide +kernel
theorem dX7_step_88 : decode cX7_step 88 = .ok (.aload_n 0, 1) := by decide +kernel
theorem dX7_step_89 : decode cX7_step 89 = .ok (.iconst 0, 1) := by decide +kernel
theorem dX7_step_90 : decode cX7_step 90 = .ok (.iload_n 3, 1) := by decide +kernel
theorem dX7_step_91 : decode cX7_step 91 = .ok (.iload 4, 2) := by decide +kernel
theorem dX7_step_93 : decode cX7_step 93 = .ok (.invokevirtual 208, 3) := by decide +kernel
theorem dX7_step_96 : decode cX7_step 96 = .ok (.iaload, 1) := by decide +kernel
theorem dX7_step_97 : decode cX7_step 97 = .ok (.iastore, 1) := by decide +kernel
theorem dX7_step_98 : decode cX7_step 98 = .ok (.return_, 1) := by decide +kernel
theorem dX7_step_99 : decode cX7_step 99 = .ok (.aload_n 0, 1) := by decide +kernel
theorem dX7_step_100 : decode cX7_step 100 = .ok (.getfield 65, 3) := by decide +kernel
theorem dX7_step_103 : decode cX7_step 103 = .ok (.iload 5, 2) := by decide +kernel
theorem dX7_step_105 : decode cX7_step 105 = .ok (.iconst 0, 1) := by decide +kernel
theorem dX7_step_106 : decode cX7_step 106 = .ok (.iastore, 1) := by decide +kernel
theorem dX7_step_107 : decode cX7_step 107 = .ok (.aload_n 0, 1) := by decide +kernel
theorem dX7_step_108 : decode cX7_step 108 = .ok (.getfield 68, 3) := by decide +kernel
theorem dX7_step_111 : decode cX7_step 111 = .ok (.iload 5, 2) := by decide +kernel
theorem dX7_step_113 : decode cX7_step 113 = .ok (.ldc 211, 2) := by decide +kernel
theorem dX7_step_115 : decode cX7_step 115 = .ok (.iastore, 1) := by decide +kernel
theorem dX7_step_116 : decode cX7_step 116 = .ok (.iconst 0, 1) := by decide +kernel
theorem dX7_step_117 : decode cX7_step 117 = .ok (.istore 6, 2) := by decide +kernel
theorem dX7_step_119 : decode cX7_step 119 = .ok (.iload 6, 2) := by decide +kernel
theorem dX7_step_121 : decode cX7_step 121 = .ok (.bipush 9, 2) := by decide +kernel
theorem dX7_step_123 : decode cX7_step 123 = .ok (.if_icmp .ge 126, 3) := by decide +kernel
theorem dX7_step_126 : decode cX7_step 126 = .ok (.aload_n 0, 1) := by decide +kernel
theorem dX7_step_127 : decode cX7_step 127 = .ok (.getfield 32, 3) := by decide +kernel
theorem dX7_step_130 : decode cX7_step 130 = .ok (.iload 4, 2) := by decide +kernel
theorem dX7_step_132 : decode cX7_step 132 = .ok (.iaload, 1) := by decide +kernel
theorem dX7_step_133 : decode cX7_step 133 = .ok (.iload 6, 2) := by decide +kernel
theorem dX7_step_135 : decode cX7_step 135 = .ok (.ishr, 1) := by decide +kernel
theorem dX7_step_136 : decode cX7_step 136 = .ok (.iconst 1, 1) := by decide +kernel
theorem dX7_step_137 : decode cX7_step 137 = .ok (.iand, 1) := by decide +kernel
theorem dX7_step_138 : decode cX7_step 138 = .ok (.ifCond .ne 6, 3) := by decide +kernel
theorem dX7_step_141 : decode cX7_step 141 = .ok (.goto 102, 3) := by decide +kernel
theorem dX7_step_144 : decode cX7_step 144 = .ok (.aload_n 0, 1) := by decide +kernel
theorem dX7_step_145 : decode cX7_step 145 = .ok (.iload_n 2, 1) := by decide +kernel
theorem dX7_step_146 : decode cX7_step 146 = .ok (.iconst 2, 1) := by decide +kernel
theorem dX7_step_147 : decode cX7_step 147 = .ok (.iadd, 1) := by decide +kernel
theorem dX7_step_148 : decode cX7_step 148 = .ok (.aload_n 0, 1) := by decide +kernel
theorem dX7_step_149 : decode cX7_step 149 = .ok (.iload_n 3, 1) := by decide +kernel
theorem dX7_step_150 : decode cX7_step 150 = .ok (.aload_n 0, 1) := by decide +kernel
theorem dX7_step_151 : decode cX7_step 151 = .ok (.getfield 35, 3) := by decide +kernel
theorem dX7_step_154 : decode cX7_step 154 = .ok (.iload_n 1, 1) := by decide +kernel
theorem dX7_step_155 : decode cX7_step 155 = .ok (.iaload, 1) := by decide +kernel
theorem dX7_step_156 : decode cX7_step 156 = .ok (.iload 6, 2) := by decide +kernel
theorem dX7_step_158 : decode cX7_step 158 = .ok (.invokevirtual 134, 3) := by decide +kernel
theorem dX7_step_161 : decode cX7_step 161 = .ok (.iload 4, 2) := by decide +kernel
theorem dX7_step_163 : decode cX7_step 163 = .ok (.iconst 1, 1) := by decide +kernel
theorem dX7_step_164 : decode cX7_step 164 = .ok (.iadd, 1) := by decide +kernel
theorem dX7_step_165 : decode cX7_step 165 = .ok (.bipush 6, 2) := by decide +kernel
theorem dX7_step_167 : decode cX7_step 167 = .ok (.irem, 1) := by decide +kernel
theorem dX7_step_168 : decode cX7_step 168 = .ok (.invokevirtual 208, 3) := by decide +kernel
theorem dX7_step_171 : decode cX7_step 171 = .ok (.istore 7, 2) := by decide +kernel
theorem dX7_step_173 : decode cX7_step 173 = .ok (.aload_n 0, 1) := by decide +kernel
theorem dX7_step_174 : decode cX7_step 174 = .ok (.getfield 65, 3) := by decide +kernel
theorem dX7_step_177 : decode cX7_step 177 = .ok (.iload 7, 2) := by decide +kernel
theorem dX7_step_179 : decode cX7_step 179 = .ok (.iaload, 1) := by decide +kernel
theorem dX7_step_180 : decode cX7_step 180 = .ok (.iconst 1, 1) := by decide +kernel
theorem dX7_step_181 : decode cX7_step 181 = .ok (.iadd, 1) := by decide +kernel
theorem dX7_step_182 : decode cX7_step 182 = .ok (.aload_n 0, 1) := by decide +kernel
theorem dX7_step_183 : decode cX7_step 183 = .ok (.getfield 65, 3) := by decide +kernel
theorem dX7_step_186 : decode cX7_step 186 = .ok (.iload 5, 2) := by decide +kernel
theorem dX7_step_188 : decode cX7_step 188 = .ok (.iaload, 1) := by decide +kernel
theorem dX7_step_189 : decode cX7_step 189 = .ok (.if_icmp .le 19, 3) := by decide +kernel
theorem dX7_step_192 : decode cX7_step 192 = .ok (.aload_n 0, 1) := by decide +kernel
theorem dX7_step_193 : decode cX7_step 193 = .ok (.getfield 65, 3) := by decide +kernel
theorem dX7_step_196 : decode cX7_step 196 = .ok (.iload 5, 2) := by decide +kernel
theorem dX7_step_198 : decode cX7_step 198 = .ok (.aload_n 0, 1) := by decide +kernel
theorem dX7_step_199 : decode cX7_step 199 = .ok (.getfield 65, 3) := by decide +kernel
theorem dX7_step_202 : decode cX7_step 202 = .ok (.iload 7, 2) := by decide +kernel
theorem dX7_step_204 : decode cX7_step 204 = .ok (.iaload, 1) := by decide +kernel
theorem dX7_step_205 : decode cX7_step 205 = .ok (.iconst 1, 1) := by decide +kernel
theorem dX7_step_206 : decode cX7_step 206 = .ok (.iadd, 1) := by decide +kernel
theorem dX7_step_207 : decode cX7_step 207 = .ok (.iastore, 1) := by decide +kernel
theorem dX7_step_208 : decode cX7_step 208 = .ok (.aload_n 0, 1) := by decide +kernel
theorem dX7_step_209 : decode cX7_step 209 = .ok (.getfield 68, 3) := by decide +kernel
theorem dX7_step_212 : decode cX7_step 212 = .ok (.iload 7, 2) := by decide +kernel
theorem dX7_step_214 : decode cX7_step 214 = .ok (.iaload, 1) := by decide +kernel
theorem dX7_step_215 : decode cX7_step 215 = .ok (.iconst 1, 1) := by decide +kernel
theorem dX7_step_216 : decode cX7_step 216 = .ok (.iadd, 1) := by decide +kernel
theorem dX7_step_217 : decode cX7_step 217 = .ok (.aload_n 0, 1) := by decide +kernel
theorem dX7_step_218 : decode cX7_step 218 = .ok (.getfield 68, 3) := by decide +kernel
theorem dX7_step_221 : decode cX7_step 221 = .ok (.iload 5, 2) := by decide +kernel
theorem dX7_step_223 : decode cX7_step 223 = .ok (.iaload, 1) := by decide +kernel
theorem dX7_step_224 : decode cX7_step 224 = .ok (.if_icmp .ge 19, 3) := by decide +kernel
theorem dX7_step_227 : decode cX7_step 227 = .ok (.aload_n 0, 1) := by decide +kernel
theorem dX7_step_228 : decode cX7_step 228 = .ok (.getfield 68, 3) := by decide +kernel
theorem dX7_step_231 : decode cX7_step 231 = .ok (.iload 5, 2) := by decide +kernel
theorem dX7_step_233 : decode cX7_step 233 = .ok (.aload_n 0, 1) := by decide +kernel
theorem dX7_step_234 : decode cX7_step 234 = .ok (.getfield 68, 3) := by decide +kernel
theorem dX7_step_237 : decode cX7_step 237 = .ok (.iload 7, 2) := by decide +kernel
theorem dX7_step_239 : decode cX7_step 239 = .ok (.iaload, 1) := by decide +kernel
theorem dX7_step_240 : decode cX7_step 240 = .ok (.iconst 1, 1) := by decide +kernel
theorem dX7_step_241 : decode cX7_step 241 = .ok (.iadd, 1) := by decide +kernel
theorem dX7_step_242 : decode cX7_step 242 = .ok (.iastore, 1) := by decide +kernel
theorem dX7_step_243 : decode cX7_step 243 = .ok (.iinc 6 1, 3) := by decide +kernel
theorem dX7_step_246 : decode cX7_step 246 = .ok (.goto (-127), 3) := by decide +kernel
theorem dX7_step_249 : decode cX7_step 249 = .ok (.aload_n 0, 1) := by decide +kernel
theorem dX7_step_250 : decode cX7_step 250 = .ok (.getfield 65, 3) := by decide +kernel
theorem dX7_step_253 : decode cX7_step 253 = .ok (.iload 5, 2) := by decide +kernel
theorem dX7_step_255 : decode cX7_step 255 = .ok (.iaload, 1) := by decide +kernel
theorem dX7_step_256 : decode cX7_step 256 = .ok (.ldc 211, 2) := by decide +kernel
theorem dX7_step_258 : decode cX7_step 258 = .ok (.if_icmp .le 12, 3) := by decide +kernel
theorem dX7_step_261 : decode cX7_step 261 = .ok (.aload_n 0, 1) := by decide +kernel
theorem dX7_step_262 : decode cX7_step 262 = .ok (.getfield 65, 3) := by decide +kernel
theorem dX7_step_265 : decode cX7_step 265 = .ok (.iload 5, 2) := by decide +kernel
theorem dX7_step_267 : decode cX7_step 267 = .ok (.ldc 211, 2) := by decide +kernel
theorem dX7_step_269 : decode cX7_step 269 = .ok (.iastore, 1) := by decide +kernel
theorem dX7_step_270 : decode cX7_step 270 = .ok (.return_, 1) := by decide +kernel
theorem dX7_sure_0 : decode cX7_sure 0 = .ok (.aload_n 0, 1) := by decide +kernel
theorem dX7_sure_1 : decode cX7_sure 1 = .ok (.iconst 0, 1) := by decide +kernel
theorem dX7_sure_2 : decode cX7_sure 2 = .ok (.putfield 87, 3) := by decide +kernel
theorem dX7_sure_5 : decode cX7_sure 5 = .ok (.iload_n 1, 1) := by decide +kernel
theorem dX7_sure_6 : decode cX7_sure 6 = .ok (.ifCond .lt 8, 3) := by decide +kernel
theorem dX7_sure_9 : decode cX7_sure 9 = .ok (.iload_n 1, 1) := by decide +kernel
theorem dX7_sure_10 : decode cX7_sure 10 = .ok (.iconst 2, 1) := by decide +kernel
theorem dX7_sure_11 : decode cX7_sure 11 = .ok (.if_icmp .le 6, 3) := by decide +kernel
theorem dX7_sure_14 : decode cX7_sure 14 = .ok (.bipush (-2), 2) := by decide +kernel
theorem dX7_sure_16 : decode cX7_sure 16 = .ok (.ireturn, 1) := by decide +kernel
theorem dX7_sure_17 : decode cX7_sure 17 = .ok (.aload_n 0, 1) := by decide +kernel
theorem dX7_sure_18 : decode cX7_sure 18 = .ok (.invokevirtual 220, 3) := by decide +kernel
theorem dX7_sure_21 : decode cX7_sure 21 = .ok (.iconst 0, 1) := by decide +kernel
theorem dX7_sure_22 : decode cX7_sure 22 = .ok (.istore_n 2, 1) := by decide +kernel
theorem dX7_sure_23 : decode cX7_sure 23 = .ok (.ldc 211, 2) := by decide +kernel
theorem dX7_sure_25 : decode cX7_sure 25 = .ok (.istore_n 3, 1) := by decide +kernel
theorem dX7_sure_26 : decode cX7_sure 26 = .ok (.iconst 0, 1) := by decide +kernel
theorem dX7_sure_27 : decode cX7_sure 27 = .ok (.istore 4, 2) := by decide +kernel
theorem dX7_sure_29 : decode cX7_sure 29 = .ok (.iconst 0, 1) := by decide +kernel
theorem dX7_sure_30 : decode cX7_sure 30 = .ok (.istore 5, 2) := by decide +kernel
theorem dX7_sure_32 : decode cX7_sure 32 = .ok (.iload 5, 2) := by decide +kernel
theorem dX7_sure_34 : decode cX7_sure 34 = .ok (.aload_n 0, 1) := by decide +kernel
theorem dX7_sure_35 : decode cX7_sure 35 = .ok (.invokevirtual 90, 3) := by decide +kernel
theorem dX7_sure_38 : decode cX7_sure 38 = .ok (.if_icmp .ge 97, 3) := by decide +kernel
theorem dX7_sure_41 : decode cX7_sure 41 = .ok (.aload_n 0, 1) := by decide +kernel
theorem dX7_sure_42 : decode cX7_sure 42 = .ok (.aload_n 0, 1) := by decide +kernel
theorem dX7_sure_43 : decode cX7_sure 43 = .ok (.getfield 18, 3) := by decide +kernel
theorem dX7_sure_46 : decode cX7_sure 46 = .ok (.iload 5, 2) := by decide +kernel
theorem dX7_sure_48 : decode cX7_sure 48 = .ok (.invokevirtual 96, 3) := by decide +kernel
theorem dX7_sure_51 : decode cX7_sure 51 = .ok (.ifCond .ne 6, 3) := by decide +kernel
theorem dX7_sure_54 : decode cX7_sure 54 = .ok (.goto 75, 3) := by decide +kernel
theorem dX7_sure_57 : decode cX7_sure 57 = .ok (.aload_n 0, 1) := by decide +kernel
theorem dX7_sure_58 : decode cX7_sure 58 = .ok (.iconst 0, 1) := by decide +kernel
theorem dX7_sure_59 : decode cX7_sure 59 = .ok (.iload 5, 2) := by decide +kernel
theorem dX7_sure_61 : decode cX7_sure 61 = .ok (.aload_n 0, 1) := by decide +kernel
theorem dX7_sure_62 : decode cX7_sure 62 = .ok (.getfield 100, 3) := by decide +kernel
theorem dX7_sure_65 : decode cX7_sure 65 = .ok (.bipush 6, 2) := by decide +kernel
theorem dX7_sure_67 : decode cX7_sure 67 = .ok (.irem, 1) := by decide +kernel
theorem dX7_sure_68 : decode cX7_sure 68 = .ok (.invokevirtual 208, 3) := by decide +kernel
theorem dX7_sure_71 : decode cX7_sure 71 = .ok (.istore 6, 2) := by decide +kernel
theorem dX7_sure_73 : decode cX7_sure 73 = .ok (.aload_n 0, 1) := by decide +kernel
theorem dX7_sure_74 : decode cX7_sure 74 = .ok (.getfield 65, 3) := by decide +kernel
theorem dX7_sure_77 : decode cX7_sure 77 = .ok (.iload 6, 2) := by decide +kernel
theorem dX7_sure_79 : decode cX7_sure 79 = .ok (.iaload, 1) := by decide +kernel
theorem dX7_sure_80 : decode cX7_sure 80 = .ok (.ldc 211, 2) := by decide +kernel
theorem dX7_sure_82 : decode cX7_sure 82 = .ok (.if_icmp .lt 9, 3) := by decide +kernel
theorem dX7_sure_85 : decode cX7_sure 85 = .ok (.iload 4, 2) := by decide +kernel
theorem dX7_sure_87 : decode cX7_sure 87 = .ok (.iconst 1, 1) := by decide +kernel
theorem dX7_sure_88 : decode cX7_sure 88 = .ok (.iadd, 1) := by decide +kernel
theorem dX7_sure_89 : decode cX7_sure 89 = .ok (.istore 4, 2) := by decide +kernel
theorem dX7_sure_91 : decode cX7_sure 91 = .ok (.aload_n 0, 1) := by decide +kernel
theorem dX7_sure_92 : decode cX7_sure 92 = .ok (.getfield 65, 3) := by decide +kernel
theorem dX7_sure_95 : decode cX7_sure 95 = .ok (.iload 6, 2) := by decide +kernel
theorem dX7_sure_97 : decode cX7_sure 97 = .ok (.iaload, 1) := by decide +kernel
theorem dX7_sure_98 : decode cX7_sure 98 = .ok (.iload_n 2, 1) := by decide +kernel
theorem dX7_sure_99 : decode cX7_sure 99 = .ok (.if_icmp .le 11, 3) := by decide +kernel
theorem dX7_sure_102 : decode cX7_sure 102 = .ok (.aload_n 0, 1) := by decide +kernel
theorem dX7_sure_103 : decode cX7_sure 103 = .ok (.getfield 65, 3) := by decide +kernel
theorem dX7_sure_106 : decode cX7_sure 106 = .ok (.iload 6, 2) := by decide +kernel
theorem dX7_sure_108 : decode cX7_sure 108 = .ok (.iaload, 1) := by decide +kernel
theorem dX7_sure_109 : decode cX7_sure 109 = .ok (.istore_n 2, 1) := by decide +kernel
theorem dX7_sure_110 : decode cX7_sure 110 = .ok (.aload_n 0, 1) := by decide +kernel
theorem dX7_sure_111 : decode cX7_sure 111 = .ok (.getfield 68, 3) := by decide +kernel
theorem dX7_sure_114 : decode cX7_sure 114 = .ok (.iload 6, 2) := by decide +kernel
theorem dX7_sure_116 : decode cX7_sure 116 = .ok (.iaload, 1) := by decide +kernel
theorem dX7_sure_117 : decode cX7_sure 117 = .ok (.iload_n 3, 1) := by decide +kernel
theorem dX7_sure_118 : decode cX7_sure 118 = .ok (.if_icmp .ge 11, 3) := by decide +kernel
theorem dX7_sure_121 : decode cX7_sure 121 = .ok (.aload_n 0, 1) := by decide +kernel
theorem dX7_sure_122 : decode cX7_sure 122 = .ok (.getfield 68, 3) := by decide +kernel
theorem dX7_sure_125 : decode cX7_sure 125 = .ok (.iload 6, 2) := by decide +kernel
theorem dX7_sure_127 : decode cX7_sure 127 = .ok (.iaload, 1) := by decide +kernel
theorem dX7_sure_128 : decode cX7_sure 128 = .ok (.istore_n 3, 1) := by decide +kernel
theorem dX7_sure_129 : decode cX7_sure 129 = .ok (.iinc 5 1, 3) := by decide +kernel
theorem dX7_sure_132 : decode cX7_sure 132 = .ok (.goto (-100), 3) := by decide +kernel
theorem dX7_sure_135 : decode cX7_sure 135 = .ok (.iload_n 1, 1) := by decide +kernel
theorem dX7_sure_136 : decode cX7_sure 136 = .ok (.ifCond .ne 15, 3) := by decide +kernel
theorem dX7_sure_139 : decode cX7_sure 139 = .ok (.iload_n 2, 1) := by decide +kernel
theorem dX7_sure_140 : decode cX7_sure 140 = .ok (.ldc 211, 2) := by decide +kernel
theorem dX7_sure_142 : decode cX7_sure 142 = .ok (.if_icmp .lt 7, 3) := by decide +kernel
theorem dX7_sure_145 : decode cX7_sure 145 = .ok (.iconst (-1), 1) := by decide +kernel
theorem dX7_sure_146 : decode cX7_sure 146 = .ok (.goto 4, 3) := by decide +kernel
theorem dX7_sure_149 : decode cX7_sure 149 = .ok (.iload_n 2, 1) := by decide +kernel
theorem dX7_sure_150 : decode cX7_sure 150 = .ok (.ireturn, 1) := by decide +kernel
theorem dX7_sure_151 : decode cX7_sure 151 = .ok (.iload_n 1, 1) := by decide +kernel
theorem dX7_sure_152 : decode cX7_sure 152 = .ok (.iconst 1, 1) := by decide +kernel
theorem dX7_sure_153 : decode cX7_sure 153 = .ok (.if_icmp .ne 15, 3) := by decide +kernel
theorem dX7_sure_156 : decode cX7_sure 156 = .ok (.iload_n 3, 1) := by decide +kernel
theorem dX7_sure_157 : decode cX7_sure 157 = .ok (.ldc 211, 2) := by decide +kernel
theorem dX7_sure_159 : decode cX7_sure 159 = .ok (.if_icmp .lt 7, 3) := by decide +kernel
theorem dX7_sure_162 : decode cX7_sure 162 = .ok (.iconst (-1), 1) := by decide +kernel
theorem dX7_sure_163 : decode cX7_sure 163 = .ok (.goto 4, 3) := by decide +kernel
theorem dX7_sure_166 : decode cX7_sure 166 = .ok (.iload_n 3, 1) := by decide +kernel
theorem dX7_sure_167 : decode cX7_sure 167 = .ok (.ireturn, 1) := by decide +kernel
theorem dX7_sure_168 : decode cX7_sure 168 = .ok (.iload 4, 2) := by decide +kernel
theorem dX7_sure_170 : decode cX7_sure 170 = .ok (.ireturn, 1) := by decide +kernel
theorem dX7_from_0 : decode cX7_from 0 = .ok (.aload_n 0, 1) := by decide +kernel
theorem dX7_from_1 : decode cX7_from 1 = .ok (.iconst 0, 1) := by decide +kernel
theorem dX7_from_2 : decode cX7_from 2 = .ok (.putfield 87, 3) := by decide +kernel
theorem dX7_from_5 : decode cX7_from 5 = .ok (.aload_n 0, 1) := by decide +kernel
theorem dX7_from_6 : decode cX7_from 6 = .ok (.iload_n 1, 1) := by decide +kernel
theorem dX7_from_7 : decode cX7_from 7 = .ok (.invokevirtual 113, 3) := by decide +kernel
theorem dX7_from_10 : decode cX7_from 10 = .ok (.ifCond .ne 6, 3) := by decide +kernel
theorem dX7_from_13 : decode cX7_from 13 = .ok (.bipush (-2), 2) := by decide +kernel
theorem dX7_from_15 : decode cX7_from 15 = .ok (.ireturn, 1) := by decide +kernel
theorem dX7_from_16 : decode cX7_from 16 = .ok (.aload_n 0, 1) := by decide +kernel
theorem dX7_from_17 : decode cX7_from 17 = .ok (.invokevirtual 220, 3) := by decide +kernel
theorem dX7_from_20 : decode cX7_from 20 = .ok (.aload_n 0, 1) := by decide +kernel
theorem dX7_from_21 : decode cX7_from 21 = .ok (.getfield 65, 3) := by decide +kernel
theorem dX7_from_24 : decode cX7_from 24 = .ok (.aload_n 0, 1) := by decide +kernel
theorem dX7_from_25 : decode cX7_from 25 = .ok (.iconst 0, 1) := by decide +kernel
theorem dX7_from_26 : decode cX7_from 26 = .ok (.iload_n 1, 1) := by decide +kernel
theorem dX7_from_27 : decode cX7_from 27 = .ok (.aload_n 0, 1) := by decide +kernel
theorem dX7_from_28 : decode cX7_from 28 = .ok (.getfield 100, 3) := by decide +kernel
theorem dX7_from_31 : decode cX7_from 31 = .ok (.bipush 6, 2) := by decide +kernel
theorem dX7_from_33 : decode cX7_from 33 = .ok (.irem, 1) := by decide +kernel
theorem dX7_from_34 : decode cX7_from 34 = .ok (.invokevirtual 208, 3) := by decide +kernel
theorem dX7_from_37 : decode cX7_from 37 = .ok (.iaload, 1) := by decide +kernel
theorem dX7_from_38 : decode cX7_from 38 = .ok (.istore_n 2, 1) := by decide +kernel
theorem dX7_from_39 : decode cX7_from 39 = .ok (.iload_n 2, 1) := by decide +kernel
theorem dX7_from_40 : decode cX7_from 40 = .ok (.ldc 211, 2) := by decide +kernel
theorem dX7_from_42 : decode cX7_from 42 = .ok (.if_icmp .lt 7, 3) := by decide +kernel
theorem dX7_from_45 : decode cX7_from 45 = .ok (.iconst (-1), 1) := by decide +kernel
theorem dX7_from_46 : decode cX7_from 46 = .ok (.goto 4, 3) := by decide +kernel
theorem dX7_from_49 : decode cX7_from 49 = .ok (.iload_n 2, 1) := by decide +kernel
theorem dX7_from_50 : decode cX7_from 50 = .ok (.ireturn, 1) := by decide +kernel
theorem dX7_sings_0 : decode cX7_sings 0 = .ok (.aload_n 0, 1) := by decide +kernel
theorem dX7_sings_1 : decode cX7_sings 1 = .ok (.iconst 0, 1) := by decide +kernel
theorem dX7_sings_2 : decode cX7_sings 2 = .ok (.putfield 87, 3) := by decide +kernel
theorem dX7_sings_5 : decode cX7_sings 5 = .ok (.aload_n 0, 1) := by decide +kernel
theorem dX7_sings_6 : decode cX7_sings 6 = .ok (.getfield 22, 3) := by decide +kernel
theorem dX7_sings_9 : decode cX7_sings 9 = .ok (.iconst (-1), 1) := by decide +kernel
theorem dX7_sings_10 : decode cX7_sings 10 = .ok (.if_icmp .eq 15, 3) := by decide +kernel
theorem dX7_sings_13 : decode cX7_sings 13 = .ok (.iload_n 1, 1) := by decide +kernel
theorem dX7_sings_14 : decode cX7_sings 14 = .ok (.ifCond .lt 11, 3) := by decide +kernel
theorem dX7_sings_17 : decode cX7_sings 17 = .ok (.iload_n 1, 1) := by decide +kernel
theorem dX7_sings_18 : decode cX7_sings 18 = .ok (.aload_n 0, 1) := by decide +kernel
theorem dX7_sings_19 : decode cX7_sings 19 = .ok (.getfield 127, 3) := by decide +kernel
theorem dX7_sings_22 : decode cX7_sings 22 = .ok (.if_icmp .lt 5, 3) := by decide +kernel
theorem dX7_sings_25 : decode cX7_sings 25 = .ok (.iconst (-1), 1) := by decide +kernel
theorem dX7_sings_26 : decode cX7_sings 26 = .ok (.ireturn, 1) := by decide +kernel
theorem dX7_sings_27 : decode cX7_sings 27 = .ok (.aload_n 0, 1) := by decide +kernel
theorem dX7_sings_28 : decode cX7_sings 28 = .ok (.aload_n 0, 1) := by decide +kernel
theorem dX7_sings_29 : decode cX7_sings 29 = .ok (.getfield 22, 3) := by decide +kernel
theorem dX7_sings_32 : decode cX7_sings 32 = .ok (.invokevirtual 117, 3) := by decide +kernel
theorem dX7_sings_35 : decode cX7_sings 35 = .ok (.ifCond .eq 6, 3) := by decide +kernel
theorem dX7_sings_38 : decode cX7_sings 38 = .ok (.bipush 9, 2) := by decide +kernel
theorem dX7_sings_40 : decode cX7_sings 40 = .ok (.ireturn, 1) := by decide +kernel
theorem dX7_sings_41 : decode cX7_sings 41 = .ok (.iload_n 1, 1) := by decide +kernel
theorem dX7_sings_42 : decode cX7_sings 42 = .ok (.istore_n 2, 1) := by decide +kernel
theorem dX7_sings_43 : decode cX7_sings 43 = .ok (.iload_n 2, 1) := by decide +kernel
theorem dX7_sings_44 : decode cX7_sings 44 = .ok (.aload_n 0, 1) := by decide +kernel
theorem dX7_sings_45 : decode cX7_sings 45 = .ok (.getfield 127, 3) := by decide +kernel
theorem dX7_sings_48 : decode cX7_sings 48 = .ok (.if_icmp .ge 29, 3) := by decide +kernel
theorem dX7_sings_51 : decode cX7_sings 51 = .ok (.aload_n 0, 1) := by decide +kernel
theorem dX7_sings_52 : decode cX7_sings 52 = .ok (.iload_n 2, 1) := by decide +kernel
theorem dX7_sings_53 : decode cX7_sings 53 = .ok (.aload_n 0, 1) := by decide +kernel
theorem dX7_sings_54 : decode cX7_sings 54 = .ok (.getfield 22, 3) := by decide +kernel
theorem dX7_sings_57 : decode cX7_sings 57 = .ok (.aload_n 0, 1) := by decide +kernel
theorem dX7_sings_58 : decode cX7_sings 58 = .ok (.getfield 100, 3) := by decide +kernel
theorem dX7_sings_61 : decode cX7_sings 61 = .ok (.bipush 6, 2) := by decide +kernel
theorem dX7_sings_63 : decode cX7_sings 63 = .ok (.irem, 1) := by decide +kernel
theorem dX7_sings_64 : decode cX7_sings 64 = .ok (.invokevirtual 216, 3) := by decide +kernel
theorem dX7_sings_67 : decode cX7_sings 67 = .ok (.ifCond .eq 10, 3) := by decide +kernel
theorem dX7_sings_70 : decode cX7_sings 70 = .ok (.iload_n 2, 1) := by decide +kernel
theorem dX7_sings_71 : decode cX7_sings 71 = .ok (.iconst 1, 1) := by decide +kernel
theorem dX7_sings_72 : decode cX7_sings 72 = .ok (.iadd, 1) := by decide +kernel
theorem dX7_sings_73 : decode cX7_sings 73 = .ok (.istore_n 2, 1) := by decide +kernel
theorem dX7_sings_74 : decode cX7_sings 74 = .ok (.goto (-31), 3) := by decide +kernel
theorem dX7_sings_77 : decode cX7_sings 77 = .ok (.iload_n 2, 1) := by decide +kernel
theorem dX7_sings_78 : decode cX7_sings 78 = .ok (.aload_n 0, 1) := by decide +kernel
theorem dX7_sings_79 : decode cX7_sings 79 = .ok (.getfield 127, 3) := by decide +kernel
theorem dX7_sings_82 : decode cX7_sings 82 = .ok (.if_icmp .ne 8, 3) := by decide +kernel
theorem dX7_sings_85 : decode cX7_sings 85 = .ok (.bipush 10, 2) := by decide +kernel
theorem dX7_sings_87 : decode cX7_sings 87 = .ok (.goto 9, 3) := by decide +kernel
theorem dX7_sings_90 : decode cX7_sings 90 = .ok (.aload_n 0, 1) := by decide +kernel
theorem dX7_sings_91 : decode cX7_sings 91 = .ok (.getfield 35, 3) := by decide +kernel
theorem dX7_sings_94 : decode cX7_sings 94 = .ok (.iload_n 2, 1) := by decide +kernel
theorem dX7_sings_95 : decode cX7_sings 95 = .ok (.iaload, 1) := by decide +kernel
theorem dX7_sings_96 : decode cX7_sings 96 = .ok (.ireturn, 1) := by decide +kernel
theorem dX7_isAllLand_0 : decode cX7_isAllLand 0 = .ok (.aload_n 0, 1) := by decide +kernel
theorem dX7_isAllLand_1 : decode cX7_isAllLand 1 = .ok (.lload_n 1, 1) := by decide +kernel
theorem dX7_isAllLand_2 : decode cX7_isAllLand 2 = .ok (.invokevirtual 124, 3) := by decide +kernel
theorem dX7_isAllLand_5 : decode cX7_isAllLand 5 = .ok (.aload_n 0, 1) := by decide +kernel
theorem dX7_isAllLand_6 : decode cX7_isAllLand 6 = .ok (.lload_n 1, 1) := by decide +kernel
theorem dX7_isAllLand_7 : decode cX7_isAllLand 7 = .ok (.invokevirtual 120, 3) := by decide +kernel
theorem dX7_isAllLand_10 : decode cX7_isAllLand 10 = .ok (.if_icmp .ne 7, 3) := by decide +kernel
theorem dX7_isAllLand_13 : decode cX7_isAllLand 13 = .ok (.iconst 1, 1) := by decide +kernel
theorem dX7_isAllLand_14 : decode cX7_isAllLand 14 = .ok (.goto 4, 3) := by decide +kernel
theorem dX7_isAllLand_17 : decode cX7_isAllLand 17 = .ok (.iconst 0, 1) := by decide +kernel
theorem dX7_isAllLand_18 : decode cX7_isAllLand 18 = .ok (.ireturn, 1) := by decide +kernel
theorem dX7_came_0 : decode cX7_came 0 = .ok (.iconst 0, 1) := by decide +kernel
theorem dX7_came_1 : decode cX7_came 1 = .ok (.istore 4, 2) := by decide +kernel
theorem dX7_came_3 : decode cX7_came 3 = .ok (.iload 4, 2) := by decide +kernel
theorem dX7_came_5 : decode cX7_came 5 = .ok (.aload_n 0, 1) := by decide +kernel
theorem dX7_came_6 : decode cX7_came 6 = .ok (.getfield 223, 3) := by decide +kernel
theorem dX7_came_9 : decode cX7_came 9 = .ok (.if_icmp .ge 38, 3) := by decide +kernel
theorem dX7_came_12 : decode cX7_came 12 = .ok (.aload_n 0, 1) := by decide +kernel
theorem dX7_came_13 : decode cX7_came 13 = .ok (.getfield 71, 3) := by decide +kernel
theorem dX7_came_16 : decode cX7_came 16 = .ok (.iload 4, 2) := by decide +kernel
theorem dX7_came_18 : decode cX7_came 18 = .ok (.laload, 1) := by decide +kernel
theorem dX7_came_19 : decode cX7_came 19 = .ok (.lload_n 1, 1) := by decide +kernel
theorem dX7_came_20 : decode cX7_came 20 = .ok (.lcmp, 1) := by decide +kernel
theorem dX7_came_21 : decode cX7_came 21 = .ok (.ifCond .ne 20, 3) := by decide +kernel
theorem dX7_came_24 : decode cX7_came 24 = .ok (.aload_n 0, 1) := by decide +kernel
theorem dX7_came_25 : decode cX7_came 25 = .ok (.getfield 75, 3) := by decide +kernel
theorem dX7_came_28 : decode cX7_came 28 = .ok (.iload 4, 2) := by decide +kernel
theorem dX7_came_30 : decode cX7_came 30 = .ok (.iaload, 1) := by decide +kernel
theorem dX7_came_31 : decode cX7_came 31 = .ok (.iload_n 3, 1) := by decide +kernel
theorem dX7_came_32 : decode cX7_came 32 = .ok (.isub, 1) := by decide +kernel
theorem dX7_came_33 : decode cX7_came 33 = .ok (.bipush 6, 2) := by decide +kernel
theorem dX7_came_35 : decode cX7_came 35 = .ok (.irem, 1) := by decide +kernel
theorem dX7_came_36 : decode cX7_came 36 = .ok (.ifCond .ne 5, 3) := by decide +kernel
theorem dX7_came_39 : decode cX7_came 39 = .ok (.iconst 1, 1) := by decide +kernel
theorem dX7_came_40 : decode cX7_came 40 = .ok (.ireturn, 1) := by decide +kernel
theorem dX7_came_41 : decode cX7_came 41 = .ok (.iinc 4 1, 3) := by decide +kernel
theorem dX7_came_44 : decode cX7_came 44 = .ok (.goto (-41), 3) := by decide +kernel
theorem dX7_came_47 : decode cX7_came 47 = .ok (.iconst 0, 1) := by decide +kernel
theorem dX7_came_48 : decode cX7_came 48 = .ok (.ireturn, 1) := by decide +kernel
theorem dX7_leads_0 : decode cX7_leads 0 = .ok (.aload_n 0, 1) := by decide +kernel
theorem dX7_leads_1 : decode cX7_leads 1 = .ok (.getfield 75, 3) := by decide +kernel
theorem dX7_leads_4 : decode cX7_leads 4 = .ok (.iload_n 1, 1) := by decide +kernel
theorem dX7_leads_5 : decode cX7_leads 5 = .ok (.iaload, 1) := by decide +kernel
theorem dX7_leads_6 : decode cX7_leads 6 = .ok (.istore_n 3, 1) := by decide +kernel
theorem dX7_leads_7 : decode cX7_leads 7 = .ok (.aload_n 0, 1) := by decide +kernel
theorem dX7_leads_8 : decode cX7_leads 8 = .ok (.iload_n 3, 1) := by decide +kernel
theorem dX7_leads_9 : decode cX7_leads 9 = .ok (.iconst 1, 1) := by decide +kernel
theorem dX7_leads_10 : decode cX7_leads 10 = .ok (.iadd, 1) := by decide +kernel
theorem dX7_leads_11 : decode cX7_leads 11 = .ok (.putfield 226, 3) := by decide +kernel
theorem dX7_leads_14 : decode cX7_leads 14 = .ok (.aload_n 0, 1) := by decide +kernel
theorem dX7_leads_15 : decode cX7_leads 15 = .ok (.getfield 84, 3) := by decide +kernel
theorem dX7_leads_18 : decode cX7_leads 18 = .ok (.iload_n 3, 1) := by decide +kernel
theorem dX7_leads_19 : decode cX7_leads 19 = .ok (.iload_n 2, 1) := by decide +kernel
theorem dX7_leads_20 : decode cX7_leads 20 = .ok (.iastore, 1) := by decide +kernel
theorem dX7_leads_21 : decode cX7_leads 21 = .ok (.iload_n 1, 1) := by decide +kernel
theorem dX7_leads_22 : decode cX7_leads 22 = .ok (.istore 4, 2) := by decide +kernel
theorem dX7_leads_24 : decode cX7_leads 24 = .ok (.iload_n 3, 1) := by decide +kernel
theorem dX7_leads_25 : decode cX7_leads 25 = .ok (.ifCond .le 32, 3) := by decide +kernel
theorem dX7_leads_28 : decode cX7_leads 28 = .ok (.iload_n 3, 1) := by decide +kernel
theorem dX7_leads_29 : decode cX7_leads 29 = .ok (.iconst 1, 1) := by decide +kernel
theorem dX7_leads_30 : decode cX7_leads 30 = .ok (.isub, 1) := by decide +kernel
theorem dX7_leads_31 : decode cX7_leads 31 = .ok (.istore_n 3, 1) := by decide +kernel
theorem dX7_leads_32 : decode cX7_leads 32 = .ok (.aload_n 0, 1) := by decide +kernel
theorem dX7_leads_33 : decode cX7_leads 33 = .ok (.getfield 84, 3) := by decide +kernel
theorem dX7_leads_36 : decode cX7_leads 36 = .ok (.iload_n 3, 1) := by decide +kernel
theorem dX7_leads_37 : decode cX7_leads 37 = .ok (.aload_n 0, 1) := by decide +kernel
theorem dX7_leads_38 : decode cX7_leads 38 = .ok (.getfield 81, 3) := by decide +kernel
theorem dX7_leads_41 : decode cX7_leads 41 = .ok (.iload 4, 2) := by decide +kernel
theorem dX7_leads_43 : decode cX7_leads 43 = .ok (.iaload, 1) := by decide +kernel
theorem dX7_leads_44 : decode cX7_leads 44 = .ok (.iastore, 1) := by decide +kernel
theorem dX7_leads_45 : decode cX7_leads 45 = .ok (.aload_n 0, 1) := by decide +kernel
theorem dX7_leads_46 : decode cX7_leads 46 = .ok (.getfield 78, 3) := by decide +kernel
theorem dX7_leads_49 : decode cX7_leads 49 = .ok (.iload 4, 2) := by decide +kernel
theorem dX7_leads_51 : decode cX7_leads 51 = .ok (.iaload, 1) := by decide +kernel
theorem dX7_leads_52 : decode cX7_leads 52 = .ok (.istore 4, 2) := by decide +kernel
theorem dX7_leads_54 : decode cX7_leads 54 = .ok (.goto (-30), 3) := by decide +kernel
theorem dX7_leads_57 : decode cX7_leads 57 = .ok (.return_, 1) := by decide +kernel
theorem dX7_findBlind_0 : decode cX7_findBlind 0 = .ok (.aload_n 0, 1) := by decide +kernel
theorem dX7_findBlind_1 : decode cX7_findBlind 1 = .ok (.iconst 0, 1) := by decide +kernel
theorem dX7_findBlind_2 : decode cX7_findBlind 2 = .ok (.putfield 226, 3) := by decide +kernel
theorem dX7_findBlind_5 : decode cX7_findBlind 5 = .ok (.aload_n 0, 1) := by decide +kernel
theorem dX7_findBlind_6 : decode cX7_findBlind 6 = .ok (.aload_n 0, 1) := by decide +kernel
theorem dX7_findBlind_7 : decode cX7_findBlind 7 = .ok (.getfield 18, 3) := by decide +kernel
theorem dX7_findBlind_10 : decode cX7_findBlind 10 = .ok (.invokevirtual 229, 3) := by decide +kernel
theorem dX7_findBlind_13 : decode cX7_findBlind 13 = .ok (.ifCond .eq 5, 3) := by decide +kernel
theorem dX7_findBlind_16 : decode cX7_findBlind 16 = .ok (.iconst 1, 1) := by decide +kernel
theorem dX7_findBlind_17 : decode cX7_findBlind 17 = .ok (.ireturn, 1) := by decide +kernel
theorem dX7_findBlind_18 : decode cX7_findBlind 18 = .ok (.aload_n 0, 1) := by decide +kernel
theorem dX7_findBlind_19 : decode cX7_findBlind 19 = .ok (.iconst 1, 1) := by decide +kernel
theorem dX7_findBlind_20 : decode cX7_findBlind 20 = .ok (.putfield 223, 3) := by decide +kernel
theorem dX7_findBlind_23 : decode cX7_findBlind 23 = .ok (.aload_n 0, 1) := by decide +kernel
theorem dX7_findBlind_24 : decode cX7_findBlind 24 = .ok (.getfield 71, 3) := by decide +kernel
theorem dX7_findBlind_27 : decode cX7_findBlind 27 = .ok (.iconst 0, 1) := by decide +kernel
theorem dX7_findBlind_28 : decode cX7_findBlind 28 = .ok (.aload_n 0, 1) := by decide +kernel
theorem dX7_findBlind_29 : decode cX7_findBlind 29 = .ok (.getfield 18, 3) := by decide +kernel
theorem dX7_findBlind_32 : decode cX7_findBlind 32 = .ok (.lastore, 1) := by decide +kernel
theorem dX7_findBlind_33 : decode cX7_findBlind 33 = .ok (.aload_n 0, 1) := by decide +kernel
theorem dX7_findBlind_34 : decode cX7_findBlind 34 = .ok (.getfield 75, 3) := by decide +kernel
theorem dX7_findBlind_37 : decode cX7_findBlind 37 = .ok (.iconst 0, 1) := by decide +kernel
theorem dX7_findBlind_38 : decode cX7_findBlind 38 = .ok (.iconst 0, 1) := by decide +kernel
theorem dX7_findBlind_39 : decode cX7_findBlind 39 = .ok (.iastore, 1) := by decide +kernel
theorem dX7_findBlind_40 : decode cX7_findBlind 40 = .ok (.iconst 0, 1) := by decide +kernel
theorem dX7_findBlind_41 : decode cX7_findBlind 41 = .ok (.istore_n 1, 1) := by decide +kernel
theorem dX7_findBlind_42 : decode cX7_findBlind 42 = .ok (.iload_n 1, 1) := by decide +kernel
theorem dX7_findBlind_43 : decode cX7_findBlind 43 = .ok (.aload_n 0, 1) := by decide +kernel
theorem dX7_findBlind_44 : decode cX7_findBlind 44 = .ok (.getfield 223, 3) := by decide +kernel
theorem dX7_findBlind_47 : decode cX7_findBlind 47 = .ok (.if_icmp .ge 178, 3) := by decide +kernel
theorem dX7_findBlind_50 : decode cX7_findBlind 50 = .ok (.aload_n 0, 1) := by decide +kernel
theorem dX7_findBlind_51 : decode cX7_findBlind 51 = .ok (.getfield 75, 3) := by decide +kernel
theorem dX7_findBlind_54 : decode cX7_findBlind 54 = .ok (.iload_n 1, 1) := by decide +kernel
theorem dX7_findBlind_55 : decode cX7_findBlind 55 = .ok (.iaload, 1) := by decide +kernel
theorem dX7_findBlind_56 : decode cX7_findBlind 56 = .ok (.bipush 12, 2) := by decide +kernel
theorem dX7_findBlind_58 : decode cX7_findBlind 58 = .ok (.if_icmp .ne 6, 3) := by decide +kernel
theorem dX7_findBlind_61 : decode cX7_findBlind 61 = .ok (.goto 158, 3) := by decide +kernel
theorem dX7_findBlind_64 : decode cX7_findBlind 64 = .ok (.iconst 0, 1) := by decide +kernel
theorem dX7_findBlind_65 : decode cX7_findBlind 65 = .ok (.istore_n 2, 1) := by decide +kernel
theorem dX7_findBlind_66 : decode cX7_findBlind 66 = .ok (.iload_n 2, 1) := by decide +kernel
theorem dX7_findBlind_67 : decode cX7_findBlind 67 = .ok (.bipush 9, 2) := by decide +kernel
theorem dX7_findBlind_69 : decode cX7_findBlind 69 = .ok (.if_icmp .ge 150, 3) := by decide +kernel
theorem dX7_findBlind_72 : decode cX7_findBlind 72 = .ok (.aload_n 0, 1) := by decide +kernel
theorem dX7_findBlind_73 : decode cX7_findBlind 73 = .ok (.aload_n 0, 1) := by decide +kernel
theorem dX7_findBlind_74 : decode cX7_findBlind 74 = .ok (.getfield 71, 3) := by decide +kernel
theorem dX7_findBlind_77 : decode cX7_findBlind 77 = .ok (.iload_n 1, 1) := by decide +kernel
theorem dX7_findBlind_78 : decode cX7_findBlind 78 = .ok (.laload, 1) := by decide +kernel
theorem dX7_findBlind_79 : decode cX7_findBlind 79 = .ok (.iload_n 2, 1) := by decide +kernel
theorem dX7_findBlind_80 : decode cX7_findBlind 80 = .ok (.aload_n 0, 1) := by decide +kernel
theorem dX7_findBlind_81 : decode cX7_findBlind 81 = .ok (.getfield 100, 3) := by decide +kernel
theorem dX7_findBlind_84 : decode cX7_findBlind 84 = .ok (.aload_n 0, 1) := by decide +kernel
theorem dX7_findBlind_85 : decode cX7_findBlind 85 = .ok (.getfield 75, 3) := by decide +kernel
theorem dX7_findBlind_88 : decode cX7_findBlind 88 = .ok (.iload_n 1, 1) := by decide +kernel
theorem dX7_findBlind_89 : decode cX7_findBlind 89 = .ok (.iaload, 1) := by decide +kernel
theorem dX7_findBlind_90 : decode cX7_findBlind 90 = .ok (.iadd, 1) := by decide +kernel
theorem dX7_findBlind_91 : decode cX7_findBlind 91 = .ok (.bipush 6, 2) := by decide +kernel
theorem dX7_findBlind_93 : decode cX7_findBlind 93 = .ok (.irem, 1) := by decide +kernel
theorem dX7_findBlind_94 : decode cX7_findBlind 94 = .ok (.invokevirtual 138, 3) := by decide +kernel
theorem dX7_findBlind_97 : decode cX7_findBlind 97 = .ok (.lstore_n 3, 1) := by decide +kernel
theorem dX7_findBlind_98 : decode cX7_findBlind 98 = .ok (.aload_n 0, 1) := by decide +kernel
theorem dX7_findBlind_99 : decode cX7_findBlind 99 = .ok (.lload_n 3, 1) := by decide +kernel
theorem dX7_findBlind_100 : decode cX7_findBlind 100 = .ok (.invokevirtual 229, 3) := by decide +kernel
theorem dX7_findBlind_103 : decode cX7_findBlind 103 = .ok (.ifCond .eq 11, 3) := by decide +kernel
theorem dX7_findBlind_106 : decode cX7_findBlind 106 = .ok (.aload_n 0, 1) := by decide +kernel
theorem dX7_findBlind_107 : decode cX7_findBlind 107 = .ok (.iload_n 1, 1) := by decide +kernel
theorem dX7_findBlind_108 : decode cX7_findBlind 108 = .ok (.iload_n 2, 1) := by decide +kernel
theorem dX7_findBlind_109 : decode cX7_findBlind 109 = .ok (.invokevirtual 233, 3) := by decide +kernel
theorem dX7_findBlind_112 : decode cX7_findBlind 112 = .ok (.iconst 1, 1) := by decide +kernel
theorem dX7_findBlind_113 : decode cX7_findBlind 113 = .ok (.ireturn, 1) := by decide +kernel
theorem dX7_findBlind_114 : decode cX7_findBlind 114 = .ok (.aload_n 0, 1) := by decide +kernel
theorem dX7_findBlind_115 : decode cX7_findBlind 115 = .ok (.getfield 75, 3) := by decide +kernel
theorem dX7_findBlind_118 : decode cX7_findBlind 118 = .ok (.iload_n 1, 1) := by decide +kernel
theorem dX7_findBlind_119 : decode cX7_findBlind 119 = .ok (.iaload, 1) := by decide +kernel
theorem dX7_findBlind_120 : decode cX7_findBlind 120 = .ok (.bipush 11, 2) := by decide +kernel
theorem dX7_findBlind_122 : decode cX7_findBlind 122 = .ok (.if_icmp .eq 91, 3) := by decide +kernel
theorem dX7_findBlind_125 : decode cX7_findBlind 125 = .ok (.aload_n 0, 1) := by decide +kernel
theorem dX7_findBlind_126 : decode cX7_findBlind 126 = .ok (.lload_n 3, 1) := by decide +kernel
theorem dX7_findBlind_127 : decode cX7_findBlind 127 = .ok (.aload_n 0, 1) := by decide +kernel
theorem dX7_findBlind_128 : decode cX7_findBlind 128 = .ok (.getfield 75, 3) := by decide +kernel
theorem dX7_findBlind_131 : decode cX7_findBlind 131 = .ok (.iload_n 1, 1) := by decide +kernel
theorem dX7_findBlind_132 : decode cX7_findBlind 132 = .ok (.iaload, 1) := by decide +kernel
theorem dX7_findBlind_133 : decode cX7_findBlind 133 = .ok (.iconst 1, 1) := by decide +kernel
theorem dX7_findBlind_134 : decode cX7_findBlind 134 = .ok (.iadd, 1) := by decide +kernel
theorem dX7_findBlind_135 : decode cX7_findBlind 135 = .ok (.invokevirtual 237, 3) := by decide +kernel
theorem dX7_findBlind_138 : decode cX7_findBlind 138 = .ok (.ifCond .eq 6, 3) := by decide +kernel
theorem dX7_findBlind_141 : decode cX7_findBlind 141 = .ok (.goto 72, 3) := by decide +kernel
theorem dX7_findBlind_144 : decode cX7_findBlind 144 = .ok (.aload_n 0, 1) := by decide +kernel
theorem dX7_findBlind_145 : decode cX7_findBlind 145 = .ok (.getfield 223, 3) := by decide +kernel
theorem dX7_findBlind_148 : decode cX7_findBlind 148 = .ok (.sipush 3000, 3) := by decide +kernel
theorem dX7_findBlind_151 : decode cX7_findBlind 151 = .ok (.if_icmp .ne 5, 3) := by decide +kernel
theorem dX7_findBlind_154 : decode cX7_findBlind 154 = .ok (.iconst (-1), 1) := by decide +kernel
theorem dX7_findBlind_155 : decode cX7_findBlind 155 = .ok (.ireturn, 1) := by decide +kernel
theorem dX7_findBlind_156 : decode cX7_findBlind 156 = .ok (.aload_n 0, 1) := by decide +kernel
theorem dX7_findBlind_157 : decode cX7_findBlind 157 = .ok (.getfield 71, 3) := by decide +kernel
theorem dX7_findBlind_160 : decode cX7_findBlind 160 = .ok (.aload_n 0, 1) := by decide +kernel
theorem dX7_findBlind_161 : decode cX7_findBlind 161 = .ok (.getfield 223, 3) := by decide +kernel
theorem dX7_findBlind_164 : decode cX7_findBlind 164 = .ok (.lload_n 3, 1) := by decide +kernel
theorem dX7_findBlind_165 : decode cX7_findBlind 165 = .ok (.lastore, 1) := by decide +kernel
theorem dX7_findBlind_166 : decode cX7_findBlind 166 = .ok (.aload_n 0, 1) := by decide +kernel
theorem dX7_findBlind_167 : decode cX7_findBlind 167 = .ok (.getfield 75, 3) := by decide +kernel
theorem dX7_findBlind_170 : decode cX7_findBlind 170 = .ok (.aload_n 0, 1) := by decide +kernel
theorem dX7_findBlind_171 : decode cX7_findBlind 171 = .ok (.getfield 223, 3) := by decide +kernel
theorem dX7_findBlind_174 : decode cX7_findBlind 174 = .ok (.aload_n 0, 1) := by decide +kernel
theorem dX7_findBlind_175 : decode cX7_findBlind 175 = .ok (.getfield 75, 3) := by decide +kernel
theorem dX7_findBlind_178 : decode cX7_findBlind 178 = .ok (.iload_n 1, 1) := by decide +kernel
theorem dX7_findBlind_179 : decode cX7_findBlind 179 = .ok (.iaload, 1) := by decide +kernel
theorem dX7_findBlind_180 : decode cX7_findBlind 180 = .ok (.iconst 1, 1) := by decide +kernel
theorem dX7_findBlind_181 : decode cX7_findBlind 181 = .ok (.iadd, 1) := by decide +kernel
theorem dX7_findBlind_182 : decode cX7_findBlind 182 = .ok (.iastore, 1) := by decide +kernel
theorem dX7_findBlind_183 : decode cX7_findBlind 183 = .ok (.aload_n 0, 1) := by decide +kernel
theorem dX7_findBlind_184 : decode cX7_findBlind 184 = .ok (.getfield 78, 3) := by decide +kernel
theorem dX7_findBlind_187 : decode cX7_findBlind 187 = .ok (.aload_n 0, 1) := by decide +kernel
theorem dX7_findBlind_188 : decode cX7_findBlind 188 = .ok (.getfield 223, 3) := by decide +kernel
theorem dX7_findBlind_191 : decode cX7_findBlind 191 = .ok (.iload_n 1, 1) := by decide +kernel
theorem dX7_findBlind_192 : decode cX7_findBlind 192 = .ok (.iastore, 1) := by decide +kernel
theorem dX7_findBlind_193 : decode cX7_findBlind 193 = .ok (.aload_n 0, 1) := by decide +kernel
theorem dX7_findBlind_194 : decode cX7_findBlind 194 = .ok (.getfield 81, 3) := by decide +kernel
theorem dX7_findBlind_197 : decode cX7_findBlind 197 = .ok (.aload_n 0, 1) := by decide +kernel
theorem dX7_findBlind_198 : decode cX7_findBlind 198 = .ok (.getfield 223, 3) := by decide +kernel
theorem dX7_findBlind_201 : decode cX7_findBlind 201 = .ok (.iload_n 2, 1) := by decide +kernel
theorem dX7_findBlind_202 : decode cX7_findBlind 202 = .ok (.iastore, 1) := by decide +kernel
theorem dX7_findBlind_203 : decode cX7_findBlind 203 = .ok (.aload_n 0, 1) := by decide +kernel
theorem dX7_findBlind_204 : decode cX7_findBlind 204 = .ok (.aload_n 0, 1) := by decide +kernel
theorem dX7_findBlind_205 : decode cX7_findBlind 205 = .ok (.getfield 223, 3) := by decide +kernel
theorem dX7_findBlind_208 : decode cX7_findBlind 208 = .ok (.iconst 1, 1) := by decide +kernel
theorem dX7_findBlind_209 : decode cX7_findBlind 209 = .ok (.iadd, 1) := by decide +kernel
theorem dX7_findBlind_210 : decode cX7_findBlind 210 = .ok (.putfield 223, 3) := by decide +kernel
theorem dX7_findBlind_213 : decode cX7_findBlind 213 = .ok (.iinc 2 1, 3) := by decide +kernel
theorem dX7_findBlind_216 : decode cX7_findBlind 216 = .ok (.goto (-150), 3) := by decide +kernel
theorem dX7_findBlind_219 : decode cX7_findBlind 219 = .ok (.iinc 1 1, 3) := by decide +kernel
theorem dX7_findBlind_222 : decode cX7_findBlind 222 = .ok (.goto (-180), 3) := by decide +kernel
theorem dX7_findBlind_225 : decode cX7_findBlind 225 = .ok (.iconst 0, 1) := by decide +kernel
theorem dX7_findBlind_226 : decode cX7_findBlind 226 = .ok (.ireturn, 1) := by decide +kernel
theorem dX7_blind_0 : decode cX7_blind 0 = .ok (.aload_n 0, 1) := by decide +kernel
theorem dX7_blind_1 : decode cX7_blind 1 = .ok (.iconst 0, 1) := by decide +kernel
theorem dX7_blind_2 : decode cX7_blind 2 = .ok (.putfield 87, 3) := by decide +kernel
theorem dX7_blind_5 : decode cX7_blind 5 = .ok (.iload_n 1, 1) := by decide +kernel
theorem dX7_blind_6 : decode cX7_blind 6 = .ok (.ifCond .eq 18, 3) := by decide +kernel
theorem dX7_blind_9 : decode cX7_blind 9 = .ok (.iload_n 1, 1) := by decide +kernel
theorem dX7_blind_10 : decode cX7_blind 10 = .ok (.bipush 10, 2) := by decide +kernel
theorem dX7_blind_12 : decode cX7_blind 12 = .ok (.if_icmp .lt 9, 3) := by decide +kernel
theorem dX7_blind_15 : decode cX7_blind 15 = .ok (.iload_n 1, 1) := by decide +kernel
theorem dX7_blind_16 : decode cX7_blind 16 = .ok (.bipush 21, 2) := by decide +kernel
theorem dX7_blind_18 : decode cX7_blind 18 = .ok (.if_icmp .le 6, 3) := by decide +kernel
theorem dX7_blind_21 : decode cX7_blind 21 = .ok (.bipush (-2), 2) := by decide +kernel
theorem dX7_blind_23 : decode cX7_blind 23 = .ok (.ireturn, 1) := by decide +kernel
theorem dX7_blind_24 : decode cX7_blind 24 = .ok (.aload_n 0, 1) := by decide +kernel
theorem dX7_blind_25 : decode cX7_blind 25 = .ok (.invokevirtual 240, 3) := by decide +kernel
theorem dX7_blind_28 : decode cX7_blind 28 = .ok (.istore_n 2, 1) := by decide +kernel
theorem dX7_blind_29 : decode cX7_blind 29 = .ok (.iload_n 2, 1) := by decide +kernel
theorem dX7_blind_30 : decode cX7_blind 30 = .ok (.ifCond .ne 5, 3) := by decide +kernel
theorem dX7_blind_33 : decode cX7_blind 33 = .ok (.iconst (-1), 1) := by decide +kernel
theorem dX7_blind_34 : decode cX7_blind 34 = .ok (.ireturn, 1) := by decide +kernel
theorem dX7_blind_35 : decode cX7_blind 35 = .ok (.iload_n 2, 1) := by decide +kernel
theorem dX7_blind_36 : decode cX7_blind 36 = .ok (.iconst (-1), 1) := by decide +kernel
theorem dX7_blind_37 : decode cX7_blind 37 = .ok (.if_icmp .ne 6, 3) := by decide +kernel
theorem dX7_blind_40 : decode cX7_blind 40 = .ok (.bipush (-2), 2) := by decide +kernel
theorem dX7_blind_42 : decode cX7_blind 42 = .ok (.ireturn, 1) := by decide +kernel
theorem dX7_blind_43 : decode cX7_blind 43 = .ok (.iload_n 1, 1) := by decide +kernel
theorem dX7_blind_44 : decode cX7_blind 44 = .ok (.ifCond .ne 8, 3) := by decide +kernel
theorem dX7_blind_47 : decode cX7_blind 47 = .ok (.aload_n 0, 1) := by decide +kernel
theorem dX7_blind_48 : decode cX7_blind 48 = .ok (.getfield 226, 3) := by decide +kernel
theorem dX7_blind_51 : decode cX7_blind 51 = .ok (.ireturn, 1) := by decide +kernel
theorem dX7_blind_52 : decode cX7_blind 52 = .ok (.iload_n 1, 1) := by decide +kernel
theorem dX7_blind_53 : decode cX7_blind 53 = .ok (.bipush 10, 2) := by decide +kernel
theorem dX7_blind_55 : decode cX7_blind 55 = .ok (.isub, 1) := by decide +kernel
theorem dX7_blind_56 : decode cX7_blind 56 = .ok (.aload_n 0, 1) := by decide +kernel
theorem dX7_blind_57 : decode cX7_blind 57 = .ok (.getfield 226, 3) := by decide +kernel
theorem dX7_blind_60 : decode cX7_blind 60 = .ok (.if_icmp .ge 15, 3) := by decide +kernel
theorem dX7_blind_63 : decode cX7_blind 63 = .ok (.aload_n 0, 1) := by decide +kernel
theorem dX7_blind_64 : decode cX7_blind 64 = .ok (.getfield 84, 3) := by decide +kernel
theorem dX7_blind_67 : decode cX7_blind 67 = .ok (.iload_n 1, 1) := by decide +kernel
theorem dX7_blind_68 : decode cX7_blind 68 = .ok (.bipush 10, 2) := by decide +kernel
theorem dX7_blind_70 : decode cX7_blind 70 = .ok (.isub, 1) := by decide +kernel
theorem dX7_blind_71 : decode cX7_blind 71 = .ok (.iaload, 1) := by decide +kernel
theorem dX7_blind_72 : decode cX7_blind 72 = .ok (.goto 5, 3) := by decide +kernel
theorem dX7_blind_75 : decode cX7_blind 75 = .ok (.bipush (-2), 2) := by decide +kernel
theorem dX7_blind_77 : decode cX7_blind 77 = .ok (.ireturn, 1) := by decide +kernel
theorem dL_law_0 : decode cL_law 0 = .ok (.new 7, 3) := by decide +kernel
theorem dL_law_3 : decode cL_law 3 = .ok (.dup, 1) := by decide +kernel
theorem dL_law_4 : decode cL_law 4 = .ok (.invokespecial 9, 3) := by decide +kernel
theorem dL_law_7 : decode cL_law 7 = .ok (.astore_n 1, 1) := by decide +kernel
theorem dL_law_8 : decode cL_law 8 = .ok (.new 10, 3) := by decide +kernel
theorem dL_law_11 : decode cL_law 11 = .ok (.dup, 1) := by decide +kernel
theorem dL_law_12 : decode cL_law 12 = .ok (.invokespecial 12, 3) := by decide +kernel
theorem dL_law_15 : decode cL_law 15 = .ok (.astore_n 2, 1) := by decide +kernel
theorem dL_law_16 : decode cL_law 16 = .ok (.iconst 0, 1) := by decide +kernel
theorem dL_law_17 : decode cL_law 17 = .ok (.istore_n 3, 1) := by decide +kernel
theorem dL_law_18 : decode cL_law 18 = .ok (.iload_n 3, 1) := by decide +kernel
theorem dL_law_19 : decode cL_law 19 = .ok (.aload_n 0, 1) := by decide +kernel
theorem dL_law_20 : decode cL_law 20 = .ok (.arraylength, 1) := by decide +kernel
theorem dL_law_21 : decode cL_law 21 = .ok (.bipush 6, 2) := by decide +kernel
theorem dL_law_23 : decode cL_law 23 = .ok (.isub, 1) := by decide +kernel
theorem dL_law_24 : decode cL_law 24 = .ok (.if_icmp .gt 728, 3) := by decide +kernel
theorem dL_law_27 : decode cL_law 27 = .ok (.aload_n 0, 1) := by decide +kernel
theorem dL_law_28 : decode cL_law 28 = .ok (.iload_n 3, 1) := by decide +kernel
theorem dL_law_29 : decode cL_law 29 = .ok (.iaload, 1) := by decide +kernel
theorem dL_law_30 : decode cL_law 30 = .ok (.bipush 31, 2) := by decide +kernel
theorem dL_law_32 : decode cL_law 32 = .ok (.iand, 1) := by decide +kernel
theorem dL_law_33 : decode cL_law 33 = .ok (.tableswitch 713 0 20 #[99, 132, 165, 198, 231, 264, 287, 301, 354, 377, 410, 453, 486, 499, 562, 585, 598, 621, 644, 667, 690], 99) := by decide +kernel
theorem dL_law_132 : decode cL_law 132 = .ok (.aload_n 1, 1) := by decide +kernel
theorem dL_law_133 : decode cL_law 133 = .ok (.aload_n 0, 1) := by decide +kernel
theorem dL_law_134 : decode cL_law 134 = .ok (.iload_n 3, 1) := by decide +kernel
theorem dL_law_135 : decode cL_law 135 = .ok (.iconst 1, 1) := by decide +kernel
theorem dL_law_136 : decode cL_law 136 = .ok (.iadd, 1) := by decide +kernel
theorem dL_law_137 : decode cL_law 137 = .ok (.iaload, 1) := by decide +kernel
theorem dL_law_138 : decode cL_law 138 = .ok (.aload_n 0, 1) := by decide +kernel
theorem dL_law_139 : decode cL_law 139 = .ok (.iload_n 3, 1) := by decide +kernel
theorem dL_law_140 : decode cL_law 140 = .ok (.iconst 2, 1) := by decide +kernel
theorem dL_law_141 : decode cL_law 141 = .ok (.iadd, 1) := by decide +kernel
theorem dL_law_142 : decode cL_law 142 = .ok (.iaload, 1) := by decide +kernel
theorem dL_law_143 : decode cL_law 143 = .ok (.invokevirtual 13, 3) := by decide +kernel
theorem dL_law_146 : decode cL_law 146 = .ok (.aload_n 2, 1) := by decide +kernel
theorem dL_law_147 : decode cL_law 147 = .ok (.aload_n 0, 1) := by decide +kernel
theorem dL_law_148 : decode cL_law 148 = .ok (.iload_n 3, 1) := by decide +kernel
theorem dL_law_149 : decode cL_law 149 = .ok (.iconst 1, 1) := by decide +kernel
theorem dL_law_150 : decode cL_law 150 = .ok (.iadd, 1) := by decide +kernel
theorem dL_law_151 : decode cL_law 151 = .ok (.iaload, 1) := by decide +kernel
theorem dL_law_152 : decode cL_law 152 = .ok (.aload_n 0, 1) := by decide +kernel
theorem dL_law_153 : decode cL_law 153 = .ok (.iload_n 3, 1) := by decide +kernel
theorem dL_law_154 : decode cL_law 154 = .ok (.iconst 2, 1) := by decide +kernel
theorem dL_law_155 : decode cL_law 155 = .ok (.iadd, 1) := by decide +kernel
theorem dL_law_156 : decode cL_law 156 = .ok (.iaload, 1) := by decide +kernel
theorem dL_law_157 : decode cL_law 157 = .ok (.invokevirtual 17, 3) := by decide +kernel
theorem dL_law_160 : decode cL_law 160 = .ok (.if_icmp .eq 586, 3) := by decide +kernel
theorem dL_law_163 : decode cL_law 163 = .ok (.iconst 0, 1) := by decide +kernel
theorem dL_law_164 : decode cL_law 164 = .ok (.ireturn, 1) := by decide +kernel
theorem dL_law_165 : decode cL_law 165 = .ok (.aload_n 1, 1) := by decide +kernel
theorem dL_law_166 : decode cL_law 166 = .ok (.aload_n 0, 1) := by decide +kernel
theorem dL_law_167 : decode cL_law 167 = .ok (.iload_n 3, 1) := by decide +kernel
theorem dL_law_168 : decode cL_law 168 = .ok (.iconst 1, 1) := by decide +kernel
theorem dL_law_169 : decode cL_law 169 = .ok (.iadd, 1) := by decide +kernel
theorem dL_law_170 : decode cL_law 170 = .ok (.iaload, 1) := by decide +kernel
theorem dL_law_171 : decode cL_law 171 = .ok (.aload_n 0, 1) := by decide +kernel
theorem dL_law_172 : decode cL_law 172 = .ok (.iload_n 3, 1) := by decide +kernel
theorem dL_law_173 : decode cL_law 173 = .ok (.iconst 2, 1) := by decide +kernel
theorem dL_law_174 : decode cL_law 174 = .ok (.iadd, 1) := by decide +kernel
theorem dL_law_175 : decode cL_law 175 = .ok (.iaload, 1) := by decide +kernel
theorem dL_law_176 : decode cL_law 176 = .ok (.invokevirtual 18, 3) := by decide +kernel
theorem dL_law_179 : decode cL_law 179 = .ok (.aload_n 2, 1) := by decide +kernel
theorem dL_law_180 : decode cL_law 180 = .ok (.aload_n 0, 1) := by decide +kernel
theorem dL_law_181 : decode cL_law 181 = .ok (.iload_n 3, 1) := by decide +kernel
theorem dL_law_182 : decode cL_law 182 = .ok (.iconst 1, 1) := by decide +kernel
theorem dL_law_183 : decode cL_law 183 = .ok (.iadd, 1) := by decide +kernel
theorem dL_law_184 : decode cL_law 184 = .ok (.iaload, 1) := by decide +kernel
theorem dL_law_185 : decode cL_law 185 = .ok (.aload_n 0, 1) := by decide +kernel
theorem dL_law_186 : decode cL_law 186 = .ok (.iload_n 3, 1) := by decide +kernel
theorem dL_law_187 : decode cL_law 187 = .ok (.iconst 2, 1) := by decide +kernel
theorem dL_law_188 : decode cL_law 188 = .ok (.iadd, 1) := by decide +kernel
theorem dL_law_189 : decode cL_law 189 = .ok (.iaload, 1) := by decide +kernel
theorem dL_law_190 : decode cL_law 190 = .ok (.invokevirtual 21, 3) := by decide +kernel
theorem dL_law_193 : decode cL_law 193 = .ok (.if_icmp .eq 553, 3) := by decide +kernel
theorem dL_law_196 : decode cL_law 196 = .ok (.iconst 0, 1) := by decide +kernel
theorem dL_law_197 : decode cL_law 197 = .ok (.ireturn, 1) := by decide +kernel
theorem dL_law_198 : decode cL_law 198 = .ok (.aload_n 1, 1) := by decide +kernel
theorem dL_law_199 : decode cL_law 199 = .ok (.aload_n 0, 1) := by decide +kernel
theorem dL_law_200 : decode cL_law 200 = .ok (.iload_n 3, 1) := by decide +kernel
theorem dL_law_201 : decode cL_law 201 = .ok (.iconst 1, 1) := by decide +kernel
theorem dL_law_202 : decode cL_law 202 = .ok (.iadd, 1) := by decide +kernel
theorem dL_law_203 : decode cL_law 203 = .ok (.iaload, 1) := by decide +kernel
theorem dL_law_204 : decode cL_law 204 = .ok (.aload_n 0, 1) := by decide +kernel
theorem dL_law_205 : decode cL_law 205 = .ok (.iload_n 3, 1) := by decide +kernel
theorem dL_law_206 : decode cL_law 206 = .ok (.iconst 2, 1) := by decide +kernel
theorem dL_law_207 : decode cL_law 207 = .ok (.iadd, 1) := by decide +kernel
theorem dL_law_208 : decode cL_law 208 = .ok (.iaload, 1) := by decide +kernel
theorem dL_law_209 : decode cL_law 209 = .ok (.invokevirtual 22, 3) := by decide +kernel
theorem dL_law_212 : decode cL_law 212 = .ok (.aload_n 2, 1) := by decide +kernel
theorem dL_law_213 : decode cL_law 213 = .ok (.aload_n 0, 1) := by decide +kernel
theorem dL_law_214 : decode cL_law 214 = .ok (.iload_n 3, 1) := by decide +kernel
theorem dL_law_215 : decode cL_law 215 = .ok (.iconst 1, 1) := by decide +kernel
theorem dL_law_216 : decode cL_law 216 = .ok (.iadd, 1) := by decide +kernel
theorem dL_law_217 : decode cL_law 217 = .ok (.iaload, 1) := by decide +kernel
theorem dL_law_218 : decode cL_law 218 = .ok (.aload_n 0, 1) := by decide +kernel
theorem dL_law_219 : decode cL_law 219 = .ok (.iload_n 3, 1) := by decide +kernel
theorem dL_law_220 : decode cL_law 220 = .ok (.iconst 2, 1) := by decide +kernel
theorem dL_law_221 : decode cL_law 221 = .ok (.iadd, 1) := by decide +kernel
theorem dL_law_222 : decode cL_law 222 = .ok (.iaload, 1) := by decide +kernel
theorem dL_law_223 : decode cL_law 223 = .ok (.invokevirtual 25, 3) := by decide +kernel
theorem dL_law_226 : decode cL_law 226 = .ok (.if_icmp .eq 520, 3) := by decide +kernel
theorem dL_law_229 : decode cL_law 229 = .ok (.iconst 0, 1) := by decide +kernel
theorem dL_law_230 : decode cL_law 230 = .ok (.ireturn, 1) := by decide +kernel
theorem dL_law_231 : decode cL_law 231 = .ok (.aload_n 1, 1) := by decide +kernel
theorem dL_law_232 : decode cL_law 232 = .ok (.aload_n 0, 1) := by decide +kernel
theorem dL_law_233 : decode cL_law 233 = .ok (.iload_n 3, 1) := by decide +kernel
theorem dL_law_234 : decode cL_law 234 = .ok (.iconst 1, 1) := by decide +kernel
theorem dL_law_235 : decode cL_law 235 = .ok (.iadd, 1) := by decide +kernel
theorem dL_law_236 : decode cL_law 236 = .ok (.iaload, 1) := by decide +kernel
theorem dL_law_237 : decode cL_law 237 = .ok (.aload_n 0, 1) := by decide +kernel
theorem dL_law_238 : decode cL_law 238 = .ok (.iload_n 3, 1) := by decide +kernel
theorem dL_law_239 : decode cL_law 239 = .ok (.iconst 2, 1) := by decide +kernel
theorem dL_law_240 : decode cL_law 240 = .ok (.iadd, 1) := by decide +kernel
theorem dL_law_241 : decode cL_law 241 = .ok (.iaload, 1) := by decide +kernel
theorem dL_law_242 : decode cL_law 242 = .ok (.invokevirtual 26, 3) := by decide +kernel
theorem dL_law_245 : decode cL_law 245 = .ok (.aload_n 2, 1) := by decide +kernel
theorem dL_law_246 : decode cL_law 246 = .ok (.aload_n 0, 1) := by decide +kernel
theorem dL_law_247 : decode cL_law 247 = .ok (.iload_n 3, 1) := by decide +kernel
theorem dL_law_248 : decode cL_law 248 = .ok (.iconst 1, 1) := by decide +kernel
theorem dL_law_249 : decode cL_law 249 = .ok (.iadd, 1) := by decide +kernel
theorem dL_law_250 : decode cL_law 250 = .ok (.iaload, 1) := by decide +kernel
theorem dL_law_251 : decode cL_law 251 = .ok (.aload_n 0, 1) := by decide +kernel
theorem dL_law_252 : decode cL_law 252 = .ok (.iload_n 3, 1) := by decide +kernel
theorem dL_law_253 : decode cL_law 253 = .ok (.iconst 2, 1) := by decide +kernel
theorem dL_law_254 : decode cL_law 254 = .ok (.iadd, 1) := by decide +kernel
theorem dL_law_255 : decode cL_law 255 = .ok (.iaload, 1) := by decide +kernel
theorem dL_law_256 : decode cL_law 256 = .ok (.invokevirtual 29, 3) := by decide +kernel
theorem dL_law_259 : decode cL_law 259 = .ok (.if_icmp .eq 487, 3) := by decide +kernel
theorem dL_law_262 : decode cL_law 262 = .ok (.iconst 0, 1) := by decide +kernel
theorem dL_law_263 : decode cL_law 263 = .ok (.ireturn, 1) := by decide +kernel
theorem dL_law_264 : decode cL_law 264 = .ok (.aload_n 1, 1) := by decide +kernel
theorem dL_law_265 : decode cL_law 265 = .ok (.aload_n 0, 1) := by decide +kernel
theorem dL_law_266 : decode cL_law 266 = .ok (.iload_n 3, 1) := by decide +kernel
theorem dL_law_267 : decode cL_law 267 = .ok (.iconst 1, 1) := by decide +kernel
theorem dL_law_268 : decode cL_law 268 = .ok (.iadd, 1) := by decide +kernel
theorem dL_law_269 : decode cL_law 269 = .ok (.iaload, 1) := by decide +kernel
theorem dL_law_270 : decode cL_law 270 = .ok (.aload_n 0, 1) := by decide +kernel
theorem dL_law_271 : decode cL_law 271 = .ok (.iload_n 3, 1) := by decide +kernel
theorem dL_law_272 : decode cL_law 272 = .ok (.iconst 2, 1) := by decide +kernel
theorem dL_law_273 : decode cL_law 273 = .ok (.iadd, 1) := by decide +kernel
theorem dL_law_274 : decode cL_law 274 = .ok (.iaload, 1) := by decide +kernel
theorem dL_law_275 : decode cL_law 275 = .ok (.invokevirtual 30, 3) := by decide +kernel
theorem dL_law_278 : decode cL_law 278 = .ok (.aload_n 2, 1) := by decide +kernel
theorem dL_law_279 : decode cL_law 279 = .ok (.aload_n 0, 1) := by decide +kernel
theorem dL_law_280 : decode cL_law 280 = .ok (.iload_n 3, 1) := by decide +kernel
theorem dL_law_281 : decode cL_law 281 = .ok (.iconst 1, 1) := by decide +kernel
theorem dL_law_282 : decode cL_law 282 = .ok (.iadd, 1) := by decide +kernel
theorem dL_law_283 : decode cL_law 283 = .ok (.iaload, 1) := by decide +kernel
theorem dL_law_284 : decode cL_law 284 = .ok (.aload_n 0, 1) := by decide +kernel
theorem dL_law_285 : decode cL_law 285 = .ok (.iload_n 3, 1) := by decide +kernel
theorem dL_law_286 : decode cL_law 286 = .ok (.iconst 2, 1) := by decide +kernel
theorem dL_law_287 : decode cL_law 287 = .ok (.iadd, 1) := by decide +kernel
theorem dL_law_288 : decode cL_law 288 = .ok (.iaload, 1) := by decide +kernel
theorem dL_law_289 : decode cL_law 289 = .ok (.invokevirtual 33, 3) := by decide +kernel
theorem dL_law_292 : decode cL_law 292 = .ok (.if_icmp .eq 454, 3) := by decide +kernel
theorem dL_law_295 : decode cL_law 295 = .ok (.iconst 0, 1) := by decide +kernel
theorem dL_law_296 : decode cL_law 296 = .ok (.ireturn, 1) := by decide +kernel
theorem dL_law_297 : decode cL_law 297 = .ok (.aload_n 1, 1) := by decide +kernel
theorem dL_law_298 : decode cL_law 298 = .ok (.aload_n 0, 1) := by decide +kernel
theorem dL_law_299 : decode cL_law 299 = .ok (.iload_n 3, 1) := by decide +kernel
theorem dL_law_300 : decode cL_law 300 = .ok (.iconst 1, 1) := by decide +kernel
theorem dL_law_301 : decode cL_law 301 = .ok (.iadd, 1) := by decide +kernel
theorem dL_law_302 : decode cL_law 302 = .ok (.iaload, 1) := by decide +kernel
theorem dL_law_303 : decode cL_law 303 = .ok (.invokevirtual 34, 3) := by decide +kernel
theorem dL_law_306 : decode cL_law 306 = .ok (.aload_n 2, 1) := by decide +kernel
theorem dL_law_307 : decode cL_law 307 = .ok (.aload_n 0, 1) := by decide +kernel
theorem dL_law_308 : decode cL_law 308 = .ok (.iload_n 3, 1) := by decide +kernel
theorem dL_law_309 : decode cL_law 309 = .ok (.iconst 1, 1) := by decide +kernel
theorem dL_law_310 : decode cL_law 310 = .ok (.iadd, 1) := by decide +kernel
theorem dL_law_311 : decode cL_law 311 = .ok (.iaload, 1) := by decide +kernel
theorem dL_law_312 : decode cL_law 312 = .ok (.invokevirtual 38, 3) := by decide +kernel
theorem dL_law_315 : decode cL_law 315 = .ok (.if_icmp .eq 431, 3) := by decide +kernel
theorem dL_law_318 : decode cL_law 318 = .ok (.iconst 0, 1) := by decide +kernel
theorem dL_law_319 : decode cL_law 319 = .ok (.ireturn, 1) := by decide +kernel
theorem dL_law_320 : decode cL_law 320 = .ok (.aload_n 1, 1) := by decide +kernel
theorem dL_law_321 : decode cL_law 321 = .ok (.invokevirtual 39, 3) := by decide +kernel
theorem dL_law_324 : decode cL_law 324 = .ok (.aload_n 2, 1) := by decide +kernel
theorem dL_law_325 : decode cL_law 325 = .ok (.invokevirtual 43, 3) := by decide +kernel
theorem dL_law_328 : decode cL_law 328 = .ok (.lcmp, 1) := by decide +kernel
theorem dL_law_329 : decode cL_law 329 = .ok (.ifCond .eq 417, 3) := by decide +kernel
theorem dL_law_332 : decode cL_law 332 = .ok (.iconst 0, 1) := by decide +kernel
theorem dL_law_333 : decode cL_law 333 = .ok (.ireturn, 1) := by decide +kernel
theorem dL_law_334 : decode cL_law 334 = .ok (.aload_n 1, 1) := by decide +kernel
theorem dL_law_335 : decode cL_law 335 = .ok (.aload_n 0, 1) := by decide +kernel
theorem dL_law_336 : decode cL_law 336 = .ok (.iload_n 3, 1) := by decide +kernel
theorem dL_law_337 : decode cL_law 337 = .ok (.iconst 1, 1) := by decide +kernel
theorem dL_law_338 : decode cL_law 338 = .ok (.iadd, 1) := by decide +kernel
theorem dL_law_339 : decode cL_law 339 = .ok (.iaload, 1) := by decide +kernel
theorem dL_law_340 : decode cL_law 340 = .ok (.i2l, 1) := by decide +kernel
theorem dL_law_341 : decode cL_law 341 = .ok (.bipush 32, 2) := by decide +kernel
theorem dL_law_343 : decode cL_law 343 = .ok (.lshl, 1) := by decide +kernel
theorem dL_law_344 : decode cL_law 344 = .ok (.aload_n 0, 1) := by decide +kernel
theorem dL_law_345 : decode cL_law 345 = .ok (.iload_n 3, 1) := by decide +kernel
theorem dL_law_346 : decode cL_law 346 = .ok (.iconst 2, 1) := by decide +kernel
theorem dL_law_347 : decode cL_law 347 = .ok (.iadd, 1) := by decide +kernel
theorem dL_law_348 : decode cL_law 348 = .ok (.iaload, 1) := by decide +kernel
theorem dL_law_349 : decode cL_law 349 = .ok (.i2l, 1) := by decide +kernel
theorem dL_law_350 : decode cL_law 350 = .ok (.ldc2_w 44, 3) := by decide +kernel
theorem dL_law_353 : decode cL_law 353 = .ok (.land, 1) := by decide +kernel
theorem dL_law_354 : decode cL_law 354 = .ok (.lor, 1) := by decide +kernel
theorem dL_law_355 : decode cL_law 355 = .ok (.invokevirtual 46, 3) := by decide +kernel
theorem dL_law_358 : decode cL_law 358 = .ok (.aload_n 2, 1) := by decide +kernel
theorem dL_law_359 : decode cL_law 359 = .ok (.aload_n 0, 1) := by decide +kernel
theorem dL_law_360 : decode cL_law 360 = .ok (.iload_n 3, 1) := by decide +kernel
theorem dL_law_361 : decode cL_law 361 = .ok (.iconst 1, 1) := by decide +kernel
theorem dL_law_362 : decode cL_law 362 = .ok (.iadd, 1) := by decide +kernel
theorem dL_law_363 : decode cL_law 363 = .ok (.iaload, 1) := by decide +kernel
theorem dL_law_364 : decode cL_law 364 = .ok (.i2l, 1) := by decide +kernel
theorem dL_law_365 : decode cL_law 365 = .ok (.bipush 32, 2) := by decide +kernel
theorem dL_law_367 : decode cL_law 367 = .ok (.lshl, 1) := by decide +kernel
theorem dL_law_368 : decode cL_law 368 = .ok (.aload_n 0, 1) := by decide +kernel
theorem dL_law_369 : decode cL_law 369 = .ok (.iload_n 3, 1) := by decide +kernel
theorem dL_law_370 : decode cL_law 370 = .ok (.iconst 2, 1) := by decide +kernel
theorem dL_law_371 : decode cL_law 371 = .ok (.iadd, 1) := by decide +kernel
theorem dL_law_372 : decode cL_law 372 = .ok (.iaload, 1) := by decide +kernel
theorem dL_law_373 : decode cL_law 373 = .ok (.i2l, 1) := by decide +kernel
theorem dL_law_374 : decode cL_law 374 = .ok (.ldc2_w 44, 3) := by decide +kernel
theorem dL_law_377 : decode cL_law 377 = .ok (.land, 1) := by decide +kernel
theorem dL_law_378 : decode cL_law 378 = .ok (.lor, 1) := by decide +kernel
theorem dL_law_379 : decode cL_law 379 = .ok (.invokevirtual 50, 3) := by decide +kernel
theorem dL_law_382 : decode cL_law 382 = .ok (.if_icmp .eq 364, 3) := by decide +kernel
theorem dL_law_385 : decode cL_law 385 = .ok (.iconst 0, 1) := by decide +kernel
theorem dL_law_386 : decode cL_law 386 = .ok (.ireturn, 1) := by decide +kernel
theorem dL_law_387 : decode cL_law 387 = .ok (.aload_n 1, 1) := by decide +kernel
theorem dL_law_388 : decode cL_law 388 = .ok (.aload_n 0, 1) := by decide +kernel
theorem dL_law_389 : decode cL_law 389 = .ok (.iload_n 3, 1) := by decide +kernel
theorem dL_law_390 : decode cL_law 390 = .ok (.iconst 1, 1) := by decide +kernel
theorem dL_law_391 : decode cL_law 391 = .ok (.iadd, 1) := by decide +kernel
theorem dL_law_392 : decode cL_law 392 = .ok (.iaload, 1) := by decide +kernel
theorem dL_law_393 : decode cL_law 393 = .ok (.invokevirtual 51, 3) := by decide +kernel
theorem dL_law_396 : decode cL_law 396 = .ok (.aload_n 2, 1) := by decide +kernel
theorem dL_law_397 : decode cL_law 397 = .ok (.aload_n 0, 1) := by decide +kernel
theorem dL_law_398 : decode cL_law 398 = .ok (.iload_n 3, 1) := by decide +kernel
theorem dL_law_399 : decode cL_law 399 = .ok (.iconst 1, 1) := by decide +kernel
theorem dL_law_400 : decode cL_law 400 = .ok (.iadd, 1) := by decide +kernel
theorem dL_law_401 : decode cL_law 401 = .ok (.iaload, 1) := by decide +kernel
theorem dL_law_402 : decode cL_law 402 = .ok (.invokevirtual 55, 3) := by decide +kernel
theorem dL_law_405 : decode cL_law 405 = .ok (.if_icmp .eq 341, 3) := by decide +kernel
theorem dL_law_408 : decode cL_law 408 = .ok (.iconst 0, 1) := by decide +kernel
theorem dL_law_409 : decode cL_law 409 = .ok (.ireturn, 1) := by decide +kernel
theorem dL_law_410 : decode cL_law 410 = .ok (.aload_n 1, 1) := by decide +kernel
theorem dL_law_411 : decode cL_law 411 = .ok (.aload_n 0, 1) := by decide +kernel
theorem dL_law_412 : decode cL_law 412 = .ok (.iload_n 3, 1) := by decide +kernel
theorem dL_law_413 : decode cL_law 413 = .ok (.iconst 1, 1) := by decide +kernel
theorem dL_law_414 : decode cL_law 414 = .ok (.iadd, 1) := by decide +kernel
theorem dL_law_415 : decode cL_law 415 = .ok (.iaload, 1) := by decide +kernel
theorem dL_law_416 : decode cL_law 416 = .ok (.aload_n 0, 1) := by decide +kernel
theorem dL_law_417 : decode cL_law 417 = .ok (.iload_n 3, 1) := by decide +kernel
theorem dL_law_418 : decode cL_law 418 = .ok (.iconst 2, 1) := by decide +kernel
theorem dL_law_419 : decode cL_law 419 = .ok (.iadd, 1) := by decide +kernel
theorem dL_law_420 : decode cL_law 420 = .ok (.iaload, 1) := by decide +kernel
theorem dL_law_421 : decode cL_law 421 = .ok (.invokevirtual 56, 3) := by decide +kernel
theorem dL_law_424 : decode cL_law 424 = .ok (.aload_n 2, 1) := by decide +kernel
theorem dL_law_425 : decode cL_law 425 = .ok (.aload_n 0, 1) := by decide +kernel
theorem dL_law_426 : decode cL_law 426 = .ok (.iload_n 3, 1) := by decide +kernel
theorem dL_law_427 : decode cL_law 427 = .ok (.iconst 1, 1) := by decide +kernel
theorem dL_law_428 : decode cL_law 428 = .ok (.iadd, 1) := by decide +kernel
theorem dL_law_429 : decode cL_law 429 = .ok (.iaload, 1) := by decide +kernel
theorem dL_law_430 : decode cL_law 430 = .ok (.aload_n 0, 1) := by decide +kernel
theorem dL_law_431 : decode cL_law 431 = .ok (.iload_n 3, 1) := by decide +kernel
theorem dL_law_432 : decode cL_law 432 = .ok (.iconst 2, 1) := by decide +kernel
theorem dL_law_433 : decode cL_law 433 = .ok (.iadd, 1) := by decide +kernel
theorem dL_law_434 : decode cL_law 434 = .ok (.iaload, 1) := by decide +kernel
theorem dL_law_435 : decode cL_law 435 = .ok (.invokevirtual 60, 3) := by decide +kernel
theorem dL_law_438 : decode cL_law 438 = .ok (.if_icmp .eq 308, 3) := by decide +kernel
theorem dL_law_441 : decode cL_law 441 = .ok (.iconst 0, 1) := by decide +kernel
theorem dL_law_442 : decode cL_law 442 = .ok (.ireturn, 1) := by decide +kernel
theorem dL_law_443 : decode cL_law 443 = .ok (.aload_n 1, 1) := by decide +kernel
theorem dL_law_444 : decode cL_law 444 = .ok (.aload_n 0, 1) := by decide +kernel
theorem dL_law_445 : decode cL_law 445 = .ok (.iload_n 3, 1) := by decide +kernel
theorem dL_law_446 : decode cL_law 446 = .ok (.iconst 1, 1) := by decide +kernel
theorem dL_law_447 : decode cL_law 447 = .ok (.iadd, 1) := by decide +kernel
theorem dL_law_448 : decode cL_law 448 = .ok (.iaload, 1) := by decide +kernel
theorem dL_law_449 : decode cL_law 449 = .ok (.aload_n 0, 1) := by decide +kernel
theorem dL_law_450 : decode cL_law 450 = .ok (.iload_n 3, 1) := by decide +kernel
theorem dL_law_451 : decode cL_law 451 = .ok (.iconst 2, 1) := by decide +kernel
theorem dL_law_452 : decode cL_law 452 = .ok (.iadd, 1) := by decide +kernel
theorem dL_law_453 : decode cL_law 453 = .ok (.iaload, 1) := by decide +kernel
theorem dL_law_454 : decode cL_law 454 = .ok (.aload_n 0, 1) := by decide +kernel
theorem dL_law_455 : decode cL_law 455 = .ok (.iload_n 3, 1) := by decide +kernel
theorem dL_law_456 : decode cL_law 456 = .ok (.iconst 3, 1) := by decide +kernel
theorem dL_law_457 : decode cL_law 457 = .ok (.iadd, 1) := by decide +kernel
theorem dL_law_458 : decode cL_law 458 = .ok (.iaload, 1) := by decide +kernel
theorem dL_law_459 : decode cL_law 459 = .ok (.invokevirtual 61, 3) := by decide +kernel
theorem dL_law_462 : decode cL_law 462 = .ok (.aload_n 2, 1) := by decide +kernel
theorem dL_law_463 : decode cL_law 463 = .ok (.aload_n 0, 1) := by decide +kernel
theorem dL_law_464 : decode cL_law 464 = .ok (.iload_n 3, 1) := by decide +kernel
theorem dL_law_465 : decode cL_law 465 = .ok (.iconst 1, 1) := by decide +kernel
theorem dL_law_466 : decode cL_law 466 = .ok (.iadd, 1) := by decide +kernel
theorem dL_law_467 : decode cL_law 467 = .ok (.iaload, 1) := by decide +kernel
theorem dL_law_468 : decode cL_law 468 = .ok (.aload_n 0, 1) := by decide +kernel
theorem dL_law_469 : decode cL_law 469 = .ok (.iload_n 3, 1) := by decide +kernel
theorem dL_law_470 : decode cL_law 470 = .ok (.iconst 2, 1) := by decide +kernel
theorem dL_law_471 : decode cL_law 471 = .ok (.iadd, 1) := by decide +kernel
theorem dL_law_472 : decode cL_law 472 = .ok (.iaload, 1) := by decide +kernel
theorem dL_law_473 : decode cL_law 473 = .ok (.aload_n 0, 1) := by decide +kernel
theorem dL_law_474 : decode cL_law 474 = .ok (.iload_n 3, 1) := by decide +kernel
theorem dL_law_475 : decode cL_law 475 = .ok (.iconst 3, 1) := by decide +kernel
theorem dL_law_476 : decode cL_law 476 = .ok (.iadd, 1) := by decide +kernel
theorem dL_law_477 : decode cL_law 477 = .ok (.iaload, 1) := by decide +kernel
theorem dL_law_478 : decode cL_law 478 = .ok (.invokevirtual 65, 3) := by decide +kernel
theorem dL_law_481 : decode cL_law 481 = .ok (.if_icmp .eq 265, 3) := by decide +kernel
theorem dL_law_484 : decode cL_law 484 = .ok (.iconst 0, 1) := by decide +kernel
theorem dL_law_485 : decode cL_law 485 = .ok (.ireturn, 1) := by decide +kernel
theorem dL_law_486 : decode cL_law 486 = .ok (.aload_n 1, 1) := by decide +kernel
theorem dL_law_487 : decode cL_law 487 = .ok (.aload_n 0, 1) := by decide +kernel
theorem dL_law_488 : decode cL_law 488 = .ok (.iload_n 3, 1) := by decide +kernel
theorem dL_law_489 : decode cL_law 489 = .ok (.iconst 1, 1) := by decide +kernel
theorem dL_law_490 : decode cL_law 490 = .ok (.iadd, 1) := by decide +kernel
theorem dL_law_491 : decode cL_law 491 = .ok (.iaload, 1) := by decide +kernel
theorem dL_law_492 : decode cL_law 492 = .ok (.aload_n 0, 1) := by decide +kernel
theorem dL_law_493 : decode cL_law 493 = .ok (.iload_n 3, 1) := by decide +kernel
theorem dL_law_494 : decode cL_law 494 = .ok (.iconst 2, 1) := by decide +kernel
theorem dL_law_495 : decode cL_law 495 = .ok (.iadd, 1) := by decide +kernel
theorem dL_law_496 : decode cL_law 496 = .ok (.iaload, 1) := by decide +kernel
theorem dL_law_497 : decode cL_law 497 = .ok (.invokevirtual 66, 3) := by decide +kernel
theorem dL_law_500 : decode cL_law 500 = .ok (.aload_n 2, 1) := by decide +kernel
theorem dL_law_501 : decode cL_law 501 = .ok (.aload_n 0, 1) := by decide +kernel
theorem dL_law_502 : decode cL_law 502 = .ok (.iload_n 3, 1) := by decide +kernel
theorem dL_law_503 : decode cL_law 503 = .ok (.iconst 1, 1) := by decide +kernel
theorem dL_law_504 : decode cL_law 504 = .ok (.iadd, 1) := by decide +kernel
theorem dL_law_505 : decode cL_law 505 = .ok (.iaload, 1) := by decide +kernel
theorem dL_law_506 : decode cL_law 506 = .ok (.aload_n 0, 1) := by decide +kernel
theorem dL_law_507 : decode cL_law 507 = .ok (.iload_n 3, 1) := by decide +kernel
theorem dL_law_508 : decode cL_law 508 = .ok (.iconst 2, 1) := by decide +kernel
theorem dL_law_509 : decode cL_law 509 = .ok (.iadd, 1) := by decide +kernel
theorem dL_law_510 : decode cL_law 510 = .ok (.iaload, 1) := by decide +kernel
theorem dL_law_511 : decode cL_law 511 = .ok (.invokevirtual 69, 3) := by decide +kernel
theorem dL_law_514 : decode cL_law 514 = .ok (.if_icmp .eq 232, 3) := by decide +kernel
theorem dL_law_517 : decode cL_law 517 = .ok (.iconst 0, 1) := by decide +kernel
theorem dL_law_518 : decode cL_law 518 = .ok (.ireturn, 1) := by decide +kernel
theorem dL_law_519 : decode cL_law 519 = .ok (.aload_n 1, 1) := by decide +kernel
theorem dL_law_520 : decode cL_law 520 = .ok (.invokevirtual 70, 3) := by decide +kernel
theorem dL_law_523 : decode cL_law 523 = .ok (.aload_n 2, 1) := by decide +kernel
theorem dL_law_524 : decode cL_law 524 = .ok (.invokevirtual 74, 3) := by decide +kernel
theorem dL_law_527 : decode cL_law 527 = .ok (.if_icmp .eq 219, 3) := by decide +kernel
theorem dL_law_530 : decode cL_law 530 = .ok (.iconst 0, 1) := by decide +kernel
theorem dL_law_531 : decode cL_law 531 = .ok (.ireturn, 1) := by decide +kernel
theorem dL_law_532 : decode cL_law 532 = .ok (.aload_n 1, 1) := by decide +kernel
theorem dL_law_533 : decode cL_law 533 = .ok (.aload_n 0, 1) := by decide +kernel
theorem dL_law_534 : decode cL_law 534 = .ok (.iload_n 3, 1) := by decide +kernel
theorem dL_law_535 : decode cL_law 535 = .ok (.iconst 1, 1) := by decide +kernel
theorem dL_law_536 : decode cL_law 536 = .ok (.iadd, 1) := by decide +kernel
theorem dL_law_537 : decode cL_law 537 = .ok (.iaload, 1) := by decide +kernel
theorem dL_law_538 : decode cL_law 538 = .ok (.aload_n 0, 1) := by decide +kernel
theorem dL_law_539 : decode cL_law 539 = .ok (.iload_n 3, 1) := by decide +kernel
theorem dL_law_540 : decode cL_law 540 = .ok (.iconst 2, 1) := by decide +kernel
theorem dL_law_541 : decode cL_law 541 = .ok (.iadd, 1) := by decide +kernel
theorem dL_law_542 : decode cL_law 542 = .ok (.iaload, 1) := by decide +kernel
theorem dL_law_543 : decode cL_law 543 = .ok (.aload_n 0, 1) := by decide +kernel
theorem dL_law_544 : decode cL_law 544 = .ok (.iload_n 3, 1) := by decide +kernel
theorem dL_law_545 : decode cL_law 545 = .ok (.iconst 3, 1) := by decide +kernel
theorem dL_law_546 : decode cL_law 546 = .ok (.iadd, 1) := by decide +kernel
theorem dL_law_547 : decode cL_law 547 = .ok (.iaload, 1) := by decide +kernel
theorem dL_law_548 : decode cL_law 548 = .ok (.aload_n 0, 1) := by decide +kernel
theorem dL_law_549 : decode cL_law 549 = .ok (.iload_n 3, 1) := by decide +kernel
theorem dL_law_550 : decode cL_law 550 = .ok (.iconst 4, 1) := by decide +kernel
theorem dL_law_551 : decode cL_law 551 = .ok (.iadd, 1) := by decide +kernel
theorem dL_law_552 : decode cL_law 552 = .ok (.iaload, 1) := by decide +kernel
theorem dL_law_553 : decode cL_law 553 = .ok (.aload_n 0, 1) := by decide +kernel
theorem dL_law_554 : decode cL_law 554 = .ok (.iload_n 3, 1) := by decide +kernel
theorem dL_law_555 : decode cL_law 555 = .ok (.iconst 5, 1) := by decide +kernel
theorem dL_law_556 : decode cL_law 556 = .ok (.iadd, 1) := by decide +kernel
theorem dL_law_557 : decode cL_law 557 = .ok (.iaload, 1) := by decide +kernel
theorem dL_law_558 : decode cL_law 558 = .ok (.invokevirtual 75, 3) := by decide +kernel
theorem dL_law_561 : decode cL_law 561 = .ok (.aload_n 2, 1) := by decide +kernel
theorem dL_law_562 : decode cL_law 562 = .ok (.aload_n 0, 1) := by decide +kernel
theorem dL_law_563 : decode cL_law 563 = .ok (.iload_n 3, 1) := by decide +kernel
theorem dL_law_564 : decode cL_law 564 = .ok (.iconst 1, 1) := by decide +kernel
theorem dL_law_565 : decode cL_law 565 = .ok (.iadd, 1) := by decide +kernel
theorem dL_law_566 : decode cL_law 566 = .ok (.iaload, 1) := by decide +kernel
theorem dL_law_567 : decode cL_law 567 = .ok (.aload_n 0, 1) := by decide +kernel
theorem dL_law_568 : decode cL_law 568 = .ok (.iload_n 3, 1) := by decide +kernel
theorem dL_law_569 : decode cL_law 569 = .ok (.iconst 2, 1) := by decide +kernel
theorem dL_law_570 : decode cL_law 570 = .ok (.iadd, 1) := by decide +kernel
theorem dL_law_571 : decode cL_law 571 = .ok (.iaload, 1) := by decide +kernel
theorem dL_law_572 : decode cL_law 572 = .ok (.aload_n 0, 1) := by decide +kernel
theorem dL_law_573 : decode cL_law 573 = .ok (.iload_n 3, 1) := by decide +kernel
theorem dL_law_574 : decode cL_law 574 = .ok (.iconst 3, 1) := by decide +kernel
theorem dL_law_575 : decode cL_law 575 = .ok (.iadd, 1) := by decide +kernel
theorem dL_law_576 : decode cL_law 576 = .ok (.iaload, 1) := by decide +kernel
theorem dL_law_577 : decode cL_law 577 = .ok (.aload_n 0, 1) := by decide +kernel
theorem dL_law_578 : decode cL_law 578 = .ok (.iload_n 3, 1) := by decide +kernel
theorem dL_law_579 : decode cL_law 579 = .ok (.iconst 4, 1) := by decide +kernel
theorem dL_law_580 : decode cL_law 580 = .ok (.iadd, 1) := by decide +kernel
theorem dL_law_581 : decode cL_law 581 = .ok (.iaload, 1) := by decide +kernel
theorem dL_law_582 : decode cL_law 582 = .ok (.aload_n 0, 1) := by decide +kernel
theorem dL_law_583 : decode cL_law 583 = .ok (.iload_n 3, 1) := by decide +kernel
theorem dL_law_584 : decode cL_law 584 = .ok (.iconst 5, 1) := by decide +kernel
theorem dL_law_585 : decode cL_law 585 = .ok (.iadd, 1) := by decide +kernel
theorem dL_law_586 : decode cL_law 586 = .ok (.iaload, 1) := by decide +kernel
theorem dL_law_587 : decode cL_law 587 = .ok (.invokevirtual 79, 3) := by decide +kernel
theorem dL_law_590 : decode cL_law 590 = .ok (.if_icmp .eq 156, 3) := by decide +kernel
theorem dL_law_593 : decode cL_law 593 = .ok (.iconst 0, 1) := by decide +kernel
theorem dL_law_594 : decode cL_law 594 = .ok (.ireturn, 1) := by decide +kernel
theorem dL_law_595 : decode cL_law 595 = .ok (.aload_n 1, 1) := by decide +kernel
theorem dL_law_596 : decode cL_law 596 = .ok (.aload_n 0, 1) := by decide +kernel
theorem dL_law_597 : decode cL_law 597 = .ok (.iload_n 3, 1) := by decide +kernel
theorem dL_law_598 : decode cL_law 598 = .ok (.iconst 1, 1) := by decide +kernel
theorem dL_law_599 : decode cL_law 599 = .ok (.iadd, 1) := by decide +kernel
theorem dL_law_600 : decode cL_law 600 = .ok (.iaload, 1) := by decide +kernel
theorem dL_law_601 : decode cL_law 601 = .ok (.invokevirtual 80, 3) := by decide +kernel
theorem dL_law_604 : decode cL_law 604 = .ok (.aload_n 2, 1) := by decide +kernel
theorem dL_law_605 : decode cL_law 605 = .ok (.aload_n 0, 1) := by decide +kernel
theorem dL_law_606 : decode cL_law 606 = .ok (.iload_n 3, 1) := by decide +kernel
theorem dL_law_607 : decode cL_law 607 = .ok (.iconst 1, 1) := by decide +kernel
theorem dL_law_608 : decode cL_law 608 = .ok (.iadd, 1) := by decide +kernel
theorem dL_law_609 : decode cL_law 609 = .ok (.iaload, 1) := by decide +kernel
theorem dL_law_610 : decode cL_law 610 = .ok (.invokevirtual 83, 3) := by decide +kernel
theorem dL_law_613 : decode cL_law 613 = .ok (.if_icmp .eq 133, 3) := by decide +kernel
theorem dL_law_616 : decode cL_law 616 = .ok (.iconst 0, 1) := by decide +kernel
theorem dL_law_617 : decode cL_law 617 = .ok (.ireturn, 1) := by decide +kernel
theorem dL_law_618 : decode cL_law 618 = .ok (.aload_n 1, 1) := by decide +kernel
theorem dL_law_619 : decode cL_law 619 = .ok (.invokevirtual 84, 3) := by decide +kernel
theorem dL_law_622 : decode cL_law 622 = .ok (.aload_n 2, 1) := by decide +kernel
theorem dL_law_623 : decode cL_law 623 = .ok (.invokevirtual 87, 3) := by decide +kernel
theorem dL_law_626 : decode cL_law 626 = .ok (.if_icmp .eq 120, 3) := by decide +kernel
theorem dL_law_629 : decode cL_law 629 = .ok (.iconst 0, 1) := by decide +kernel
theorem dL_law_630 : decode cL_law 630 = .ok (.ireturn, 1) := by decide +kernel
theorem dL_law_631 : decode cL_law 631 = .ok (.aload_n 1, 1) := by decide +kernel
theorem dL_law_632 : decode cL_law 632 = .ok (.aload_n 0, 1) := by decide +kernel
theorem dL_law_633 : decode cL_law 633 = .ok (.iload_n 3, 1) := by decide +kernel
theorem dL_law_634 : decode cL_law 634 = .ok (.iconst 1, 1) := by decide +kernel
theorem dL_law_635 : decode cL_law 635 = .ok (.iadd, 1) := by decide +kernel
theorem dL_law_636 : decode cL_law 636 = .ok (.iaload, 1) := by decide +kernel
theorem dL_law_637 : decode cL_law 637 = .ok (.invokevirtual 88, 3) := by decide +kernel
theorem dL_law_640 : decode cL_law 640 = .ok (.aload_n 2, 1) := by decide +kernel
theorem dL_law_641 : decode cL_law 641 = .ok (.aload_n 0, 1) := by decide +kernel
theorem dL_law_642 : decode cL_law 642 = .ok (.iload_n 3, 1) := by decide +kernel
theorem dL_law_643 : decode cL_law 643 = .ok (.iconst 1, 1) := by decide +kernel
theorem dL_law_644 : decode cL_law 644 = .ok (.iadd, 1) := by decide +kernel
theorem dL_law_645 : decode cL_law 645 = .ok (.iaload, 1) := by decide +kernel
theorem dL_law_646 : decode cL_law 646 = .ok (.invokevirtual 91, 3) := by decide +kernel
theorem dL_law_649 : decode cL_law 649 = .ok (.if_icmp .eq 97, 3) := by decide +kernel
theorem dL_law_652 : decode cL_law 652 = .ok (.iconst 0, 1) := by decide +kernel
theorem dL_law_653 : decode cL_law 653 = .ok (.ireturn, 1) := by decide +kernel
theorem dL_law_654 : decode cL_law 654 = .ok (.aload_n 1, 1) := by decide +kernel
theorem dL_law_655 : decode cL_law 655 = .ok (.aload_n 0, 1) := by decide +kernel
theorem dL_law_656 : decode cL_law 656 = .ok (.iload_n 3, 1) := by decide +kernel
theorem dL_law_657 : decode cL_law 657 = .ok (.iconst 1, 1) := by decide +kernel
theorem dL_law_658 : decode cL_law 658 = .ok (.iadd, 1) := by decide +kernel
theorem dL_law_659 : decode cL_law 659 = .ok (.iaload, 1) := by decide +kernel
theorem dL_law_660 : decode cL_law 660 = .ok (.invokevirtual 92, 3) := by decide +kernel
theorem dL_law_663 : decode cL_law 663 = .ok (.aload_n 2, 1) := by decide +kernel
theorem dL_law_664 : decode cL_law 664 = .ok (.aload_n 0, 1) := by decide +kernel
theorem dL_law_665 : decode cL_law 665 = .ok (.iload_n 3, 1) := by decide +kernel
theorem dL_law_666 : decode cL_law 666 = .ok (.iconst 1, 1) := by decide +kernel
theorem dL_law_667 : decode cL_law 667 = .ok (.iadd, 1) := by decide +kernel
theorem dL_law_668 : decode cL_law 668 = .ok (.iaload, 1) := by decide +kernel
theorem dL_law_669 : decode cL_law 669 = .ok (.invokevirtual 95, 3) := by decide +kernel
theorem dL_law_672 : decode cL_law 672 = .ok (.if_icmp .eq 74, 3) := by decide +kernel
theorem dL_law_675 : decode cL_law 675 = .ok (.iconst 0, 1) := by decide +kernel
theorem dL_law_676 : decode cL_law 676 = .ok (.ireturn, 1) := by decide +kernel
theorem dL_law_677 : decode cL_law 677 = .ok (.aload_n 1, 1) := by decide +kernel
theorem dL_law_678 : decode cL_law 678 = .ok (.aload_n 0, 1) := by decide +kernel
theorem dL_law_679 : decode cL_law 679 = .ok (.iload_n 3, 1) := by decide +kernel
theorem dL_law_680 : decode cL_law 680 = .ok (.iconst 1, 1) := by decide +kernel
theorem dL_law_681 : decode cL_law 681 = .ok (.iadd, 1) := by decide +kernel
theorem dL_law_682 : decode cL_law 682 = .ok (.iaload, 1) := by decide +kernel
theorem dL_law_683 : decode cL_law 683 = .ok (.invokevirtual 96, 3) := by decide +kernel
theorem dL_law_686 : decode cL_law 686 = .ok (.aload_n 2, 1) := by decide +kernel
theorem dL_law_687 : decode cL_law 687 = .ok (.aload_n 0, 1) := by decide +kernel
theorem dL_law_688 : decode cL_law 688 = .ok (.iload_n 3, 1) := by decide +kernel
theorem dL_law_689 : decode cL_law 689 = .ok (.iconst 1, 1) := by decide +kernel
theorem dL_law_690 : decode cL_law 690 = .ok (.iadd, 1) := by decide +kernel
theorem dL_law_691 : decode cL_law 691 = .ok (.iaload, 1) := by decide +kernel
theorem dL_law_692 : decode cL_law 692 = .ok (.invokevirtual 99, 3) := by decide +kernel
theorem dL_law_695 : decode cL_law 695 = .ok (.if_icmp .eq 51, 3) := by decide +kernel
theorem dL_law_698 : decode cL_law 698 = .ok (.iconst 0, 1) := by decide +kernel
theorem dL_law_699 : decode cL_law 699 = .ok (.ireturn, 1) := by decide +kernel
theorem dL_law_700 : decode cL_law 700 = .ok (.aload_n 1, 1) := by decide +kernel
theorem dL_law_701 : decode cL_law 701 = .ok (.aload_n 0, 1) := by decide +kernel
theorem dL_law_702 : decode cL_law 702 = .ok (.iload_n 3, 1) := by decide +kernel
theorem dL_law_703 : decode cL_law 703 = .ok (.iconst 1, 1) := by decide +kernel
theorem dL_law_704 : decode cL_law 704 = .ok (.iadd, 1) := by decide +kernel
theorem dL_law_705 : decode cL_law 705 = .ok (.iaload, 1) := by decide +kernel
theorem dL_law_706 : decode cL_law 706 = .ok (.invokevirtual 100, 3) := by decide +kernel
theorem dL_law_709 : decode cL_law 709 = .ok (.aload_n 2, 1) := by decide +kernel
theorem dL_law_710 : decode cL_law 710 = .ok (.aload_n 0, 1) := by decide +kernel
theorem dL_law_711 : decode cL_law 711 = .ok (.iload_n 3, 1) := by decide +kernel
theorem dL_law_712 : decode cL_law 712 = .ok (.iconst 1, 1) := by decide +kernel
theorem dL_law_713 : decode cL_law 713 = .ok (.iadd, 1) := by decide +kernel
theorem dL_law_714 : decode cL_law 714 = .ok (.iaload, 1) := by decide +kernel
theorem dL_law_715 : decode cL_law 715 = .ok (.invokevirtual 103, 3) := by decide +kernel
theorem dL_law_718 : decode cL_law 718 = .ok (.if_icmp .eq 28, 3) := by decide +kernel
theorem dL_law_721 : decode cL_law 721 = .ok (.iconst 0, 1) := by decide +kernel
theorem dL_law_722 : decode cL_law 722 = .ok (.ireturn, 1) := by decide +kernel
theorem dL_law_723 : decode cL_law 723 = .ok (.aload_n 1, 1) := by decide +kernel
theorem dL_law_724 : decode cL_law 724 = .ok (.aload_n 0, 1) := by decide +kernel
theorem dL_law_725 : decode cL_law 725 = .ok (.iload_n 3, 1) := by decide +kernel
theorem dL_law_726 : decode cL_law 726 = .ok (.iconst 1, 1) := by decide +kernel
theorem dL_law_727 : decode cL_law 727 = .ok (.iadd, 1) := by decide +kernel
theorem dL_law_728 : decode cL_law 728 = .ok (.iaload, 1) := by decide +kernel
theorem dL_law_729 : decode cL_law 729 = .ok (.invokevirtual 104, 3) := by decide +kernel
theorem dL_law_732 : decode cL_law 732 = .ok (.aload_n 2, 1) := by decide +kernel
theorem dL_law_733 : decode cL_law 733 = .ok (.aload_n 0, 1) := by decide +kernel
theorem dL_law_734 : decode cL_law 734 = .ok (.iload_n 3, 1) := by decide +kernel
theorem dL_law_735 : decode cL_law 735 = .ok (.iconst 1, 1) := by decide +kernel
theorem dL_law_736 : decode cL_law 736 = .ok (.iadd, 1) := by decide +kernel
theorem dL_law_737 : decode cL_law 737 = .ok (.iaload, 1) := by decide +kernel
theorem dL_law_738 : decode cL_law 738 = .ok (.invokevirtual 107, 3) := by decide +kernel
theorem dL_law_741 : decode cL_law 741 = .ok (.if_icmp .eq 5, 3) := by decide +kernel
theorem dL_law_744 : decode cL_law 744 = .ok (.iconst 0, 1) := by decide +kernel
theorem dL_law_745 : decode cL_law 745 = .ok (.ireturn, 1) := by decide +kernel
theorem dL_law_746 : decode cL_law 746 = .ok (.iinc 3 6, 3) := by decide +kernel
theorem dL_law_749 : decode cL_law 749 = .ok (.goto (-731), 3) := by decide +kernel
theorem dL_law_752 : decode cL_law 752 = .ok (.iconst 1, 1) := by decide +kernel
theorem dL_law_753 : decode cL_law 753 = .ok (.ireturn, 1) := by decide +kernel
