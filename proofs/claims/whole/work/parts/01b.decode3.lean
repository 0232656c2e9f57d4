theorem dX7_init_9 : decode cX7_init 9 = .ok (.aload_n 0, 1) := by decide +kernel
theorem dX7_init_10 : decode cX7_init 10 = .ok (.iconst 4, 1) := by decide +kernel
theorem dX7_init_11 : decode cX7_init 11 = .ok (.putfield 13, 3) := by decide +kernel
theorem dX7_init_14 : decode cX7_init 14 = .ok (.aload_n 0, 1) := by decide +kernel
theorem dX7_init_15 : decode cX7_init 15 = .ok (.ldc2_w 16, 3) := by decide +kernel
theorem dX7_init_18 : decode cX7_init 18 = .ok (.putfield 18, 3) := by decide +kernel
theorem dX7_init_21 : decode cX7_init 21 = .ok (.aload_n 0, 1) := by decide +kernel
theorem dX7_init_22 : decode cX7_init 22 = .ok (.iconst (-1), 1) := by decide +kernel
theorem dX7_init_23 : decode cX7_init 23 = .ok (.putfield 22, 3) := by decide +kernel
theorem dX7_init_26 : decode cX7_init 26 = .ok (.aload_n 0, 1) := by decide +kernel
theorem dX7_init_27 : decode cX7_init 27 = .ok (.bipush 64, 2) := by decide +kernel
theorem dX7_init_29 : decode cX7_init 29 = .ok (.newarray .int, 2) := by decide +kernel
theorem dX7_init_31 : decode cX7_init 31 = .ok (.putfield 25, 3) := by decide +kernel
theorem dX7_init_34 : decode cX7_init 34 = .ok (.aload_n 0, 1) := by decide +kernel
theorem dX7_init_35 : decode cX7_init 35 = .ok (.bipush 64, 2) := by decide +kernel
theorem dX7_init_37 : decode cX7_init 37 = .ok (.newarray .int, 2) := by decide +kernel
theorem dX7_init_39 : decode cX7_init 39 = .ok (.putfield 29, 3) := by decide +kernel
theorem dX7_init_42 : decode cX7_init 42 = .ok (.aload_n 0, 1) := by decide +kernel
theorem dX7_init_43 : decode cX7_init 43 = .ok (.bipush 6, 2) := by decide +kernel
theorem dX7_init_45 : decode cX7_init 45 = .ok (.newarray .int, 2) := by decide +kernel
theorem dX7_init_47 : decode cX7_init 47 = .ok (.dup, 1) := by decide +kernel
theorem dX7_init_48 : decode cX7_init 48 = .ok (.iconst 0, 1) := by decide +kernel
theorem dX7_init_49 : decode cX7_init 49 = .ok (.bipush 16, 2) := by decide +kernel
theorem dX7_init_51 : decode cX7_init 51 = .ok (.iastore, 1) := by decide +kernel
theorem dX7_init_52 : decode cX7_init 52 = .ok (.dup, 1) := by decide +kernel
theorem dX7_init_53 : decode cX7_init 53 = .ok (.iconst 1, 1) := by decide +kernel
theorem dX7_init_54 : decode cX7_init 54 = .ok (.bipush 16, 2) := by decide +kernel
theorem dX7_init_56 : decode cX7_init 56 = .ok (.iastore, 1) := by decide +kernel
theorem dX7_init_57 : decode cX7_init 57 = .ok (.dup, 1) := by decide +kernel
theorem dX7_init_58 : decode cX7_init 58 = .ok (.iconst 2, 1) := by decide +kernel
theorem dX7_init_59 : decode cX7_init 59 = .ok (.bipush 16, 2) := by decide +kernel
theorem dX7_init_61 : decode cX7_init 61 = .ok (.iastore, 1) := by decide +kernel
theorem dX7_init_62 : decode cX7_init 62 = .ok (.dup, 1) := by decide +kernel
theorem dX7_init_63 : decode cX7_init 63 = .ok (.iconst 3, 1) := by decide +kernel
theorem dX7_init_64 : decode cX7_init 64 = .ok (.bipush 16, 2) := by decide +kernel
theorem dX7_init_66 : decode cX7_init 66 = .ok (.iastore, 1) := by decide +kernel
theorem dX7_init_67 : decode cX7_init 67 = .ok (.dup, 1) := by decide +kernel
theorem dX7_init_68 : decode cX7_init 68 = .ok (.iconst 4, 1) := by decide +kernel
theorem dX7_init_69 : decode cX7_init 69 = .ok (.bipush 16, 2) := by decide +kernel
theorem dX7_init_71 : decode cX7_init 71 = .ok (.iastore, 1) := by decide +kernel
theorem dX7_init_72 : decode cX7_init 72 = .ok (.dup, 1) := by decide +kernel
theorem dX7_init_73 : decode cX7_init 73 = .ok (.iconst 5, 1) := by decide +kernel
theorem dX7_init_74 : decode cX7_init 74 = .ok (.bipush 16, 2) := by decide +kernel
theorem dX7_init_76 : decode cX7_init 76 = .ok (.iastore, 1) := by decide +kernel
theorem dX7_init_77 : decode cX7_init 77 = .ok (.putfield 32, 3) := by decide +kernel
theorem dX7_init_80 : decode cX7_init 80 = .ok (.aload_n 0, 1) := by decide +kernel
theorem dX7_init_81 : decode cX7_init 81 = .ok (.bipush 12, 2) := by decide +kernel
theorem dX7_init_83 : decode cX7_init 83 = .ok (.newarray .int, 2) := by decide +kernel
theorem dX7_init_85 : decode cX7_init 85 = .ok (.putfield 35, 3) := by decide +kernel
theorem dX7_init_88 : decode cX7_init 88 = .ok (.aload_n 0, 1) := by decide +kernel
theorem dX7_init_89 : decode cX7_init 89 = .ok (.bipush 12, 2) := by decide +kernel
theorem dX7_init_91 : decode cX7_init 91 = .ok (.newarray .int, 2) := by decide +kernel
theorem dX7_init_93 : decode cX7_init 93 = .ok (.putfield 38, 3) := by decide +kernel
theorem dX7_init_96 : decode cX7_init 96 = .ok (.aload_n 0, 1) := by decide +kernel
theorem dX7_init_97 : decode cX7_init 97 = .ok (.bipush 12, 2) := by decide +kernel
theorem dX7_init_99 : decode cX7_init 99 = .ok (.newarray .int, 2) := by decide +kernel
theorem dX7_init_101 : decode cX7_init 101 = .ok (.putfield 41, 3) := by decide +kernel
theorem dX7_init_104 : decode cX7_init 104 = .ok (.aload_n 0, 1) := by decide +kernel
theorem dX7_init_105 : decode cX7_init 105 = .ok (.bipush 12, 2) := by decide +kernel
theorem dX7_init_107 : decode cX7_init 107 = .ok (.newarray .int, 2) := by decide +kernel
theorem dX7_init_109 : decode cX7_init 109 = .ok (.putfield 44, 3) := by decide +kernel
theorem dX7_init_112 : decode cX7_init 112 = .ok (.aload_n 0, 1) := by decide +kernel
theorem dX7_init_113 : decode cX7_init 113 = .ok (.bipush 12, 2) := by decide +kernel
theorem dX7_init_115 : decode cX7_init 115 = .ok (.newarray .int, 2) := by decide +kernel
theorem dX7_init_117 : decode cX7_init 117 = .ok (.putfield 47, 3) := by decide +kernel
theorem dX7_init_120 : decode cX7_init 120 = .ok (.aload_n 0, 1) := by decide +kernel
theorem dX7_init_121 : decode cX7_init 121 = .ok (.bipush 12, 2) := by decide +kernel
theorem dX7_init_123 : decode cX7_init 123 = .ok (.newarray .int, 2) := by decide +kernel
theorem dX7_init_125 : decode cX7_init 125 = .ok (.putfield 50, 3) := by decide +kernel
theorem dX7_init_128 : decode cX7_init 128 = .ok (.aload_n 0, 1) := by decide +kernel
theorem dX7_init_129 : decode cX7_init 129 = .ok (.bipush 12, 2) := by decide +kernel
theorem dX7_init_131 : decode cX7_init 131 = .ok (.newarray .int, 2) := by decide +kernel
theorem dX7_init_133 : decode cX7_init 133 = .ok (.putfield 53, 3) := by decide +kernel
theorem dX7_init_136 : decode cX7_init 136 = .ok (.aload_n 0, 1) := by decide +kernel
theorem dX7_init_137 : decode cX7_init 137 = .ok (.bipush 12, 2) := by decide +kernel
theorem dX7_init_139 : decode cX7_init 139 = .ok (.newarray .int, 2) := by decide +kernel
theorem dX7_init_141 : decode cX7_init 141 = .ok (.putfield 56, 3) := by decide +kernel
theorem dX7_init_144 : decode cX7_init 144 = .ok (.aload_n 0, 1) := by decide +kernel
theorem dX7_init_145 : decode cX7_init 145 = .ok (.sipush 400, 3) := by decide +kernel
theorem dX7_init_148 : decode cX7_init 148 = .ok (.newarray .int, 2) := by decide +kernel
theorem dX7_init_150 : decode cX7_init 150 = .ok (.putfield 59, 3) := by decide +kernel
theorem dX7_init_153 : decode cX7_init 153 = .ok (.aload_n 0, 1) := by decide +kernel
theorem dX7_init_154 : decode cX7_init 154 = .ok (.iconst (-1), 1) := by decide +kernel
theorem dX7_init_155 : decode cX7_init 155 = .ok (.putfield 62, 3) := by decide +kernel
theorem dX7_init_158 : decode cX7_init 158 = .ok (.aload_n 0, 1) := by decide +kernel
theorem dX7_init_159 : decode cX7_init 159 = .ok (.sipush 16384, 3) := by decide +kernel
theorem dX7_init_162 : decode cX7_init 162 = .ok (.newarray .int, 2) := by decide +kernel
theorem dX7_init_164 : decode cX7_init 164 = .ok (.putfield 65, 3) := by decide +kernel
theorem dX7_init_167 : decode cX7_init 167 = .ok (.aload_n 0, 1) := by decide +kernel
theorem dX7_init_168 : decode cX7_init 168 = .ok (.sipush 16384, 3) := by decide +kernel
theorem dX7_init_171 : decode cX7_init 171 = .ok (.newarray .int, 2) := by decide +kernel
theorem dX7_init_173 : decode cX7_init 173 = .ok (.putfield 68, 3) := by decide +kernel
theorem dX7_init_176 : decode cX7_init 176 = .ok (.aload_n 0, 1) := by decide +kernel
theorem dX7_init_177 : decode cX7_init 177 = .ok (.sipush 3000, 3) := by decide +kernel
theorem dX7_init_180 : decode cX7_init 180 = .ok (.newarray .long, 2) := by decide +kernel
theorem dX7_init_182 : decode cX7_init 182 = .ok (.putfield 71, 3) := by decide +kernel
theorem dX7_init_185 : decode cX7_init 185 = .ok (.aload_n 0, 1) := by decide +kernel
theorem dX7_init_186 : decode cX7_init 186 = .ok (.sipush 3000, 3) := by decide +kernel
theorem dX7_init_189 : decode cX7_init 189 = .ok (.newarray .int, 2) := by decide +kernel
theorem dX7_init_191 : decode cX7_init 191 = .ok (.putfield 75, 3) := by decide +kernel
theorem dX7_init_194 : decode cX7_init 194 = .ok (.aload_n 0, 1) := by decide +kernel
theorem dX7_init_195 : decode cX7_init 195 = .ok (.sipush 3000, 3) := by decide +kernel
theorem dX7_init_198 : decode cX7_init 198 = .ok (.newarray .int, 2) := by decide +kernel
theorem dX7_init_200 : decode cX7_init 200 = .ok (.putfield 78, 3) := by decide +kernel
theorem dX7_init_203 : decode cX7_init 203 = .ok (.aload_n 0, 1) := by decide +kernel
theorem dX7_init_204 : decode cX7_init 204 = .ok (.sipush 3000, 3) := by decide +kernel
theorem dX7_init_207 : decode cX7_init 207 = .ok (.newarray .int, 2) := by decide +kernel
theorem dX7_init_209 : decode cX7_init 209 = .ok (.putfield 81, 3) := by decide +kernel
theorem dX7_init_212 : decode cX7_init 212 = .ok (.aload_n 0, 1) := by decide +kernel
theorem dX7_init_213 : decode cX7_init 213 = .ok (.bipush 12, 2) := by decide +kernel
theorem dX7_init_215 : decode cX7_init 215 = .ok (.newarray .int, 2) := by decide +kernel
theorem dX7_init_217 : decode cX7_init 217 = .ok (.putfield 84, 3) := by decide +kernel
theorem dX7_init_220 : decode cX7_init 220 = .ok (.return_, 1) := by decide +kernel
theorem dX7_cells_0 : decode cX7_cells 0 = .ok (.aload_n 0, 1) := by decide +kernel
theorem dX7_cells_1 : decode cX7_cells 1 = .ok (.getfield 7, 3) := by decide +kernel
theorem dX7_cells_4 : decode cX7_cells 4 = .ok (.aload_n 0, 1) := by decide +kernel
theorem dX7_cells_5 : decode cX7_cells 5 = .ok (.getfield 13, 3) := by decide +kernel
theorem dX7_cells_8 : decode cX7_cells 8 = .ok (.imul, 1) := by decide +kernel
theorem dX7_cells_9 : decode cX7_cells 9 = .ok (.ireturn, 1) := by decide +kernel
theorem dX7_isCell_0 : decode cX7_isCell 0 = .ok (.iload_n 1, 1) := by decide +kernel
theorem dX7_isCell_1 : decode cX7_isCell 1 = .ok (.ifCond .lt 15, 3) := by decide +kernel
theorem dX7_isCell_4 : decode cX7_isCell 4 = .ok (.iload_n 1, 1) := by decide +kernel
theorem dX7_isCell_5 : decode cX7_isCell 5 = .ok (.aload_n 0, 1) := by decide +kernel
theorem dX7_isCell_6 : decode cX7_isCell 6 = .ok (.invokevirtual 90, 3) := by decide +kernel
theorem dX7_isCell_9 : decode cX7_isCell 9 = .ok (.if_icmp .ge 7, 3) := by decide +kernel
theorem dX7_isCell_12 : decode cX7_isCell 12 = .ok (.iconst 1, 1) := by decide +kernel
theorem dX7_isCell_13 : decode cX7_isCell 13 = .ok (.goto 4, 3) := by decide +kernel
theorem dX7_isCell_16 : decode cX7_isCell 16 = .ok (.iconst 0, 1) := by decide +kernel
theorem dX7_isCell_17 : decode cX7_isCell 17 = .ok (.ireturn, 1) := by decide +kernel
theorem dX7_isLand_0 : decode cX7_isLand 0 = .ok (.aload_n 0, 1) := by decide +kernel
theorem dX7_isLand_1 : decode cX7_isLand 1 = .ok (.getfield 25, 3) := by decide +kernel
theorem dX7_isLand_4 : decode cX7_isLand 4 = .ok (.iload_n 1, 1) := by decide +kernel
theorem dX7_isLand_5 : decode cX7_isLand 5 = .ok (.iaload, 1) := by decide +kernel
theorem dX7_isLand_6 : decode cX7_isLand 6 = .ok (.ifCond .le 7, 3) := by decide +kernel
theorem dX7_isLand_9 : decode cX7_isLand 9 = .ok (.iconst 1, 1) := by decide +kernel
theorem dX7_isLand_10 : decode cX7_isLand 10 = .ok (.goto 4, 3) := by decide +kernel
theorem dX7_isLand_13 : decode cX7_isLand 13 = .ok (.iconst 0, 1) := by decide +kernel
theorem dX7_isLand_14 : decode cX7_isLand 14 = .ok (.ireturn, 1) := by decide +kernel
theorem dX7_all_0 : decode cX7_all 0 = .ok (.aload_n 0, 1) := by decide +kernel
theorem dX7_all_1 : decode cX7_all 1 = .ok (.invokevirtual 90, 3) := by decide +kernel
theorem dX7_all_4 : decode cX7_all 4 = .ok (.bipush 64, 2) := by decide +kernel
theorem dX7_all_6 : decode cX7_all 6 = .ok (.if_icmp .ne 9, 3) := by decide +kernel
theorem dX7_all_9 : decode cX7_all 9 = .ok (.ldc2_w 94, 3) := by decide +kernel
theorem dX7_all_12 : decode cX7_all 12 = .ok (.goto 11, 3) := by decide +kernel
theorem dX7_all_15 : decode cX7_all 15 = .ok (.lconst 1, 1) := by decide +kernel
theorem dX7_all_16 : decode cX7_all 16 = .ok (.aload_n 0, 1) := by decide +kernel
theorem dX7_all_17 : decode cX7_all 17 = .ok (.invokevirtual 90, 3) := by decide +kernel
theorem dX7_all_20 : decode cX7_all 20 = .ok (.lshl, 1) := by decide +kernel
theorem dX7_all_21 : decode cX7_all 21 = .ok (.lconst 1, 1) := by decide +kernel
theorem dX7_all_22 : decode cX7_all 22 = .ok (.lsub, 1) := by decide +kernel
theorem dX7_all_23 : decode cX7_all 23 = .ok (.lreturn, 1) := by decide +kernel
theorem dX7_has_0 : decode cX7_has 0 = .ok (.lload_n 1, 1) := by decide +kernel
theorem dX7_has_1 : decode cX7_has 1 = .ok (.iload_n 3, 1) := by decide +kernel
theorem dX7_has_2 : decode cX7_has 2 = .ok (.lushr, 1) := by decide +kernel
theorem dX7_has_3 : decode cX7_has 3 = .ok (.lconst 1, 1) := by decide +kernel
theorem dX7_has_4 : decode cX7_has 4 = .ok (.land, 1) := by decide +kernel
theorem dX7_has_5 : decode cX7_has 5 = .ok (.lconst 1, 1) := by decide +kernel
theorem dX7_has_6 : decode cX7_has 6 = .ok (.lcmp, 1) := by decide +kernel
theorem dX7_has_7 : decode cX7_has 7 = .ok (.ifCond .ne 7, 3) := by decide +kernel
theorem dX7_has_10 : decode cX7_has 10 = .ok (.iconst 1, 1) := by decide +kernel
theorem dX7_has_11 : decode cX7_has 11 = .ok (.goto 4, 3) := by decide +kernel
theorem dX7_has_14 : decode cX7_has 14 = .ok (.iconst 0, 1) := by decide +kernel
theorem dX7_has_15 : decode cX7_has 15 = .ok (.ireturn, 1) := by decide +kernel
theorem dX7_count_0 : decode cX7_count 0 = .ok (.iconst 0, 1) := by decide +kernel
theorem dX7_count_1 : decode cX7_count 1 = .ok (.istore_n 3, 1) := by decide +kernel
theorem dX7_count_2 : decode cX7_count 2 = .ok (.iconst 0, 1) := by decide +kernel
theorem dX7_count_3 : decode cX7_count 3 = .ok (.istore 4, 2) := by decide +kernel
theorem dX7_count_5 : decode cX7_count 5 = .ok (.iload 4, 2) := by decide +kernel
theorem dX7_count_7 : decode cX7_count 7 = .ok (.bipush 64, 2) := by decide +kernel
theorem dX7_count_9 : decode cX7_count 9 = .ok (.if_icmp .ge 23, 3) := by decide +kernel
theorem dX7_count_12 : decode cX7_count 12 = .ok (.aload_n 0, 1) := by decide +kernel
theorem dX7_count_13 : decode cX7_count 13 = .ok (.lload_n 1, 1) := by decide +kernel
theorem dX7_count_14 : decode cX7_count 14 = .ok (.iload 4, 2) := by decide +kernel
theorem dX7_count_16 : decode cX7_count 16 = .ok (.invokevirtual 96, 3) := by decide +kernel
theorem dX7_count_19 : decode cX7_count 19 = .ok (.ifCond .eq 7, 3) := by decide +kernel
theorem dX7_count_22 : decode cX7_count 22 = .ok (.iload_n 3, 1) := by decide +kernel
theorem dX7_count_23 : decode cX7_count 23 = .ok (.iconst 1, 1) := by decide +kernel
theorem dX7_count_24 : decode cX7_count 24 = .ok (.iadd, 1) := by decide +kernel
theorem dX7_count_25 : decode cX7_count 25 = .ok (.istore_n 3, 1) := by decide +kernel
theorem dX7_count_26 : decode cX7_count 26 = .ok (.iinc 4 1, 3) := by decide +kernel
theorem dX7_count_29 : decode cX7_count 29 = .ok (.goto (-24), 3) := by decide +kernel
theorem dX7_count_32 : decode cX7_count 32 = .ok (.iload_n 3, 1) := by decide +kernel
theorem dX7_count_33 : decode cX7_count 33 = .ok (.ireturn, 1) := by decide +kernel
theorem dX7_sea_0 : decode cX7_sea 0 = .ok (.aload_n 0, 1) := by decide +kernel
theorem dX7_sea_1 : decode cX7_sea 1 = .ok (.iconst 0, 1) := by decide +kernel
theorem dX7_sea_2 : decode cX7_sea 2 = .ok (.putfield 87, 3) := by decide +kernel
theorem dX7_sea_5 : decode cX7_sea 5 = .ok (.iload_n 1, 1) := by decide +kernel
theorem dX7_sea_6 : decode cX7_sea 6 = .ok (.iconst 2, 1) := by decide +kernel
theorem dX7_sea_7 : decode cX7_sea 7 = .ok (.if_icmp .lt 20, 3) := by decide +kernel
theorem dX7_sea_10 : decode cX7_sea 10 = .ok (.iload_n 1, 1) := by decide +kernel
theorem dX7_sea_11 : decode cX7_sea 11 = .ok (.bipush 8, 2) := by decide +kernel
theorem dX7_sea_13 : decode cX7_sea 13 = .ok (.if_icmp .gt 14, 3) := by decide +kernel
theorem dX7_sea_16 : decode cX7_sea 16 = .ok (.iload_n 2, 1) := by decide +kernel
theorem dX7_sea_17 : decode cX7_sea 17 = .ok (.iconst 2, 1) := by decide +kernel
theorem dX7_sea_18 : decode cX7_sea 18 = .ok (.if_icmp .lt 9, 3) := by decide +kernel
theorem dX7_sea_21 : decode cX7_sea 21 = .ok (.iload_n 2, 1) := by decide +kernel
theorem dX7_sea_22 : decode cX7_sea 22 = .ok (.bipush 8, 2) := by decide +kernel
theorem dX7_sea_24 : decode cX7_sea 24 = .ok (.if_icmp .le 5, 3) := by decide +kernel
theorem dX7_sea_27 : decode cX7_sea 27 = .ok (.iconst 0, 1) := by decide +kernel
theorem dX7_sea_28 : decode cX7_sea 28 = .ok (.ireturn, 1) := by decide +kernel
theorem dX7_sea_29 : decode cX7_sea 29 = .ok (.aload_n 0, 1) := by decide +kernel
theorem dX7_sea_30 : decode cX7_sea 30 = .ok (.iload_n 1, 1) := by decide +kernel
theorem dX7_sea_31 : decode cX7_sea 31 = .ok (.putfield 7, 3) := by decide +kernel
theorem dX7_sea_34 : decode cX7_sea 34 = .ok (.aload_n 0, 1) := by decide +kernel
theorem dX7_sea_35 : decode cX7_sea 35 = .ok (.iload_n 2, 1) := by decide +kernel
theorem dX7_sea_36 : decode cX7_sea 36 = .ok (.putfield 13, 3) := by decide +kernel
theorem dX7_sea_39 : decode cX7_sea 39 = .ok (.aload_n 0, 1) := by decide +kernel
theorem dX7_sea_40 : decode cX7_sea 40 = .ok (.iconst 0, 1) := by decide +kernel
theorem dX7_sea_41 : decode cX7_sea 41 = .ok (.putfield 100, 3) := by decide +kernel
theorem dX7_sea_44 : decode cX7_sea 44 = .ok (.aload_n 0, 1) := by decide +kernel
theorem dX7_sea_45 : decode cX7_sea 45 = .ok (.iconst (-1), 1) := by decide +kernel
theorem dX7_sea_46 : decode cX7_sea 46 = .ok (.putfield 22, 3) := by decide +kernel
theorem dX7_sea_49 : decode cX7_sea 49 = .ok (.aload_n 0, 1) := by decide +kernel
theorem dX7_sea_50 : decode cX7_sea 50 = .ok (.iconst 0, 1) := by decide +kernel
theorem dX7_sea_51 : decode cX7_sea 51 = .ok (.putfield 103, 3) := by decide +kernel
theorem dX7_sea_54 : decode cX7_sea 54 = .ok (.aload_n 0, 1) := by decide +kernel
theorem dX7_sea_55 : decode cX7_sea 55 = .ok (.iconst 0, 1) := by decide +kernel
theorem dX7_sea_56 : decode cX7_sea 56 = .ok (.putfield 106, 3) := by decide +kernel
theorem dX7_sea_59 : decode cX7_sea 59 = .ok (.aload_n 0, 1) := by decide +kernel
theorem dX7_sea_60 : decode cX7_sea 60 = .ok (.aload_n 0, 1) := by decide +kernel
theorem dX7_sea_61 : decode cX7_sea 61 = .ok (.invokevirtual 109, 3) := by decide +kernel
theorem dX7_sea_64 : decode cX7_sea 64 = .ok (.putfield 18, 3) := by decide +kernel
theorem dX7_sea_67 : decode cX7_sea 67 = .ok (.iconst 0, 1) := by decide +kernel
theorem dX7_sea_68 : decode cX7_sea 68 = .ok (.istore_n 3, 1) := by decide +kernel
theorem dX7_sea_69 : decode cX7_sea 69 = .ok (.iload_n 3, 1) := by decide +kernel
theorem dX7_sea_70 : decode cX7_sea 70 = .ok (.bipush 64, 2) := by decide +kernel
theorem dX7_sea_72 : decode cX7_sea 72 = .ok (.if_icmp .ge 23, 3) := by decide +kernel
theorem dX7_sea_75 : decode cX7_sea 75 = .ok (.aload_n 0, 1) := by decide +kernel
theorem dX7_sea_76 : decode cX7_sea 76 = .ok (.getfield 25, 3) := by decide +kernel
theorem dX7_sea_79 : decode cX7_sea 79 = .ok (.iload_n 3, 1) := by decide +kernel
theorem dX7_sea_80 : decode cX7_sea 80 = .ok (.iconst 0, 1) := by decide +kernel
theorem dX7_sea_81 : decode cX7_sea 81 = .ok (.iastore, 1) := by decide +kernel
theorem dX7_sea_82 : decode cX7_sea 82 = .ok (.aload_n 0, 1) := by decide +kernel
theorem dX7_sea_83 : decode cX7_sea 83 = .ok (.getfield 29, 3) := by decide +kernel
theorem dX7_sea_86 : decode cX7_sea 86 = .ok (.iload_n 3, 1) := by decide +kernel
theorem dX7_sea_87 : decode cX7_sea 87 = .ok (.iconst 0, 1) := by decide +kernel
theorem dX7_sea_88 : decode cX7_sea 88 = .ok (.iastore, 1) := by decide +kernel
theorem dX7_sea_89 : decode cX7_sea 89 = .ok (.iinc 3 1, 3) := by decide +kernel
theorem dX7_sea_92 : decode cX7_sea 92 = .ok (.goto (-23), 3) := by decide +kernel
theorem dX7_sea_95 : decode cX7_sea 95 = .ok (.iconst 0, 1) := by decide +kernel
theorem dX7_sea_96 : decode cX7_sea 96 = .ok (.istore_n 3, 1) := by decide +kernel
theorem dX7_sea_97 : decode cX7_sea 97 = .ok (.iload_n 3, 1) := by decide +kernel
theorem dX7_sea_98 : decode cX7_sea 98 = .ok (.bipush 6, 2) := by decide +kernel
theorem dX7_sea_100 : decode cX7_sea 100 = .ok (.if_icmp .ge 17, 3) := by decide +kernel
theorem dX7_sea_103 : decode cX7_sea 103 = .ok (.aload_n 0, 1) := by decide +kernel
theorem dX7_sea_104 : decode cX7_sea 104 = .ok (.getfield 32, 3) := by decide +kernel
theorem dX7_sea_107 : decode cX7_sea 107 = .ok (.iload_n 3, 1) := by decide +kernel
theorem dX7_sea_108 : decode cX7_sea 108 = .ok (.bipush 16, 2) := by decide +kernel
theorem dX7_sea_110 : decode cX7_sea 110 = .ok (.iastore, 1) := by decide +kernel
theorem dX7_sea_111 : decode cX7_sea 111 = .ok (.iinc 3 1, 3) := by decide +kernel
theorem dX7_sea_114 : decode cX7_sea 114 = .ok (.goto (-17), 3) := by decide +kernel
theorem dX7_sea_117 : decode cX7_sea 117 = .ok (.iconst 1, 1) := by decide +kernel
theorem dX7_sea_118 : decode cX7_sea 118 = .ok (.ireturn, 1) := by decide +kernel
theorem dX7_land_0 : decode cX7_land 0 = .ok (.aload_n 0, 1) := by decide +kernel
theorem dX7_land_1 : decode cX7_land 1 = .ok (.iconst 0, 1) := by decide +kernel
theorem dX7_land_2 : decode cX7_land 2 = .ok (.putfield 87, 3) := by decide +kernel
theorem dX7_land_5 : decode cX7_land 5 = .ok (.aload_n 0, 1) := by decide +kernel
theorem dX7_land_6 : decode cX7_land 6 = .ok (.iload_n 1, 1) := by decide +kernel
theorem dX7_land_7 : decode cX7_land 7 = .ok (.invokevirtual 113, 3) := by decide +kernel
theorem dX7_land_10 : decode cX7_land 10 = .ok (.ifCond .eq 13, 3) := by decide +kernel
theorem dX7_land_13 : decode cX7_land 13 = .ok (.iload_n 2, 1) := by decide +kernel
theorem dX7_land_14 : decode cX7_land 14 = .ok (.iconst (-1), 1) := by decide +kernel
theorem dX7_land_15 : decode cX7_land 15 = .ok (.if_icmp .lt 8, 3) := by decide +kernel
theorem dX7_land_18 : decode cX7_land 18 = .ok (.iload_n 2, 1) := by decide +kernel
theorem dX7_land_19 : decode cX7_land 19 = .ok (.iconst 3, 1) := by decide +kernel
theorem dX7_land_20 : decode cX7_land 20 = .ok (.if_icmp .le 5, 3) := by decide +kernel
theorem dX7_land_23 : decode cX7_land 23 = .ok (.iconst 0, 1) := by decide +kernel
theorem dX7_land_24 : decode cX7_land 24 = .ok (.ireturn, 1) := by decide +kernel
theorem dX7_land_25 : decode cX7_land 25 = .ok (.aload_n 0, 1) := by decide +kernel
theorem dX7_land_26 : decode cX7_land 26 = .ok (.getfield 25, 3) := by decide +kernel
theorem dX7_land_29 : decode cX7_land 29 = .ok (.iload_n 1, 1) := by decide +kernel
theorem dX7_land_30 : decode cX7_land 30 = .ok (.iload_n 2, 1) := by decide +kernel
theorem dX7_land_31 : decode cX7_land 31 = .ok (.iconst 1, 1) := by decide +kernel
theorem dX7_land_32 : decode cX7_land 32 = .ok (.iadd, 1) := by decide +kernel
theorem dX7_land_33 : decode cX7_land 33 = .ok (.iastore, 1) := by decide +kernel
theorem dX7_land_34 : decode cX7_land 34 = .ok (.iconst 1, 1) := by decide +kernel
theorem dX7_land_35 : decode cX7_land 35 = .ok (.ireturn, 1) := by decide +kernel
theorem dX7_swell_0 : decode cX7_swell 0 = .ok (.aload_n 0, 1) := by decide +kernel
theorem dX7_swell_1 : decode cX7_swell 1 = .ok (.iconst 0, 1) := by decide +kernel
theorem dX7_swell_2 : decode cX7_swell 2 = .ok (.putfield 87, 3) := by decide +kernel
theorem dX7_swell_5 : decode cX7_swell 5 = .ok (.aload_n 0, 1) := by decide +kernel
theorem dX7_swell_6 : decode cX7_swell 6 = .ok (.iload_n 1, 1) := by decide +kernel
theorem dX7_swell_7 : decode cX7_swell 7 = .ok (.invokevirtual 113, 3) := by decide +kernel
theorem dX7_swell_10 : decode cX7_swell 10 = .ok (.ifCond .eq 12, 3) := by decide +kernel
theorem dX7_swell_13 : decode cX7_swell 13 = .ok (.iload_n 2, 1) := by decide +kernel
theorem dX7_swell_14 : decode cX7_swell 14 = .ok (.ifCond .lt 8, 3) := by decide +kernel
theorem dX7_swell_17 : decode cX7_swell 17 = .ok (.iload_n 2, 1) := by decide +kernel
theorem dX7_swell_18 : decode cX7_swell 18 = .ok (.iconst 3, 1) := by decide +kernel
theorem dX7_swell_19 : decode cX7_swell 19 = .ok (.if_icmp .le 5, 3) := by decide +kernel
theorem dX7_swell_22 : decode cX7_swell 22 = .ok (.iconst 0, 1) := by decide +kernel
theorem dX7_swell_23 : decode cX7_swell 23 = .ok (.ireturn, 1) := by decide +kernel
theorem dX7_swell_24 : decode cX7_swell 24 = .ok (.aload_n 0, 1) := by decide +kernel
theorem dX7_swell_25 : decode cX7_swell 25 = .ok (.getfield 29, 3) := by decide +kernel
theorem dX7_swell_28 : decode cX7_swell 28 = .ok (.iload_n 1, 1) := by decide +kernel
theorem dX7_swell_29 : decode cX7_swell 29 = .ok (.iload_n 2, 1) := by decide +kernel
theorem dX7_swell_30 : decode cX7_swell 30 = .ok (.iastore, 1) := by decide +kernel
theorem dX7_swell_31 : decode cX7_swell 31 = .ok (.iconst 1, 1) := by decide +kernel
theorem dX7_swell_32 : decode cX7_swell 32 = .ok (.ireturn, 1) := by decide +kernel
theorem dX7_drifts_0 : decode cX7_drifts 0 = .ok (.aload_n 0, 1) := by decide +kernel
theorem dX7_drifts_1 : decode cX7_drifts 1 = .ok (.iconst 0, 1) := by decide +kernel
theorem dX7_drifts_2 : decode cX7_drifts 2 = .ok (.putfield 87, 3) := by decide +kernel
theorem dX7_drifts_5 : decode cX7_drifts 5 = .ok (.iload_n 1, 1) := by decide +kernel
theorem dX7_drifts_6 : decode cX7_drifts 6 = .ok (.ifCond .lt 20, 3) := by decide +kernel
theorem dX7_drifts_9 : decode cX7_drifts 9 = .ok (.iload_n 1, 1) := by decide +kernel
theorem dX7_drifts_10 : decode cX7_drifts 10 = .ok (.iconst 5, 1) := by decide +kernel
theorem dX7_drifts_11 : decode cX7_drifts 11 = .ok (.if_icmp .gt 15, 3) := by decide +kernel
theorem dX7_drifts_14 : decode cX7_drifts 14 = .ok (.iload_n 2, 1) := by decide +kernel
theorem dX7_drifts_15 : decode cX7_drifts 15 = .ok (.iconst 1, 1) := by decide +kernel
theorem dX7_drifts_16 : decode cX7_drifts 16 = .ok (.if_icmp .lt 10, 3) := by decide +kernel
theorem dX7_drifts_19 : decode cX7_drifts 19 = .ok (.iload_n 2, 1) := by decide +kernel
theorem dX7_drifts_20 : decode cX7_drifts 20 = .ok (.sipush 511, 3) := by decide +kernel
theorem dX7_drifts_23 : decode cX7_drifts 23 = .ok (.if_icmp .le 5, 3) := by decide +kernel
theorem dX7_drifts_26 : decode cX7_drifts 26 = .ok (.iconst 0, 1) := by decide +kernel
theorem dX7_drifts_27 : decode cX7_drifts 27 = .ok (.ireturn, 1) := by decide +kernel
theorem dX7_drifts_28 : decode cX7_drifts 28 = .ok (.aload_n 0, 1) := by decide +kernel
theorem dX7_drifts_29 : decode cX7_drifts 29 = .ok (.getfield 32, 3) := by decide +kernel
theorem dX7_drifts_32 : decode cX7_drifts 32 = .ok (.iload_n 1, 1) := by decide +kernel
theorem dX7_drifts_33 : decode cX7_drifts 33 = .ok (.iload_n 2, 1) := by decide +kernel
theorem dX7_drifts_34 : decode cX7_drifts 34 = .ok (.iastore, 1) := by decide +kernel
theorem dX7_drifts_35 : decode cX7_drifts 35 = .ok (.iconst 1, 1) := by decide +kernel
theorem dX7_drifts_36 : decode cX7_drifts 36 = .ok (.ireturn, 1) := by decide +kernel
theorem dX7_watches_0 : decode cX7_watches 0 = .ok (.aload_n 0, 1) := by decide +kernel
theorem dX7_watches_1 : decode cX7_watches 1 = .ok (.iconst 0, 1) := by decide +kernel
theorem dX7_watches_2 : decode cX7_watches 2 = .ok (.putfield 87, 3) := by decide +kernel
theorem dX7_watches_5 : decode cX7_watches 5 = .ok (.iload_n 1, 1) := by decide +kernel
theorem dX7_watches_6 : decode cX7_watches 6 = .ok (.ifCond .lt 19, 3) := by decide +kernel
theorem dX7_watches_9 : decode cX7_watches 9 = .ok (.iload_n 1, 1) := by decide +kernel
theorem dX7_watches_10 : decode cX7_watches 10 = .ok (.bipush 63, 2) := by decide +kernel
theorem dX7_watches_12 : decode cX7_watches 12 = .ok (.if_icmp .gt 13, 3) := by decide +kernel
theorem dX7_watches_15 : decode cX7_watches 15 = .ok (.iload_n 2, 1) := by decide +kernel
theorem dX7_watches_16 : decode cX7_watches 16 = .ok (.ifCond .lt 9, 3) := by decide +kernel
theorem dX7_watches_19 : decode cX7_watches 19 = .ok (.iload_n 2, 1) := by decide +kernel
theorem dX7_watches_20 : decode cX7_watches 20 = .ok (.bipush 63, 2) := by decide +kernel
theorem dX7_watches_22 : decode cX7_watches 22 = .ok (.if_icmp .le 5, 3) := by decide +kernel
theorem dX7_watches_25 : decode cX7_watches 25 = .ok (.iconst 0, 1) := by decide +kernel
theorem dX7_watches_26 : decode cX7_watches 26 = .ok (.ireturn, 1) := by decide +kernel
theorem dX7_watches_27 : decode cX7_watches 27 = .ok (.aload_n 0, 1) := by decide +kernel
theorem dX7_watches_28 : decode cX7_watches 28 = .ok (.iload_n 1, 1) := by decide +kernel
theorem dX7_watches_29 : decode cX7_watches 29 = .ok (.putfield 103, 3) := by decide +kernel
theorem dX7_watches_32 : decode cX7_watches 32 = .ok (.aload_n 0, 1) := by decide +kernel
theorem dX7_watches_33 : decode cX7_watches 33 = .ok (.iload_n 2, 1) := by decide +kernel
theorem dX7_watches_34 : decode cX7_watches 34 = .ok (.putfield 106, 3) := by decide +kernel
theorem dX7_watches_37 : decode cX7_watches 37 = .ok (.iconst 1, 1) := by decide +kernel
theorem dX7_watches_38 : decode cX7_watches 38 = .ok (.ireturn, 1) := by decide +kernel
theorem dX7_landsIn_0 : decode cX7_landsIn 0 = .ok (.iconst 0, 1) := by decide +kernel
theorem dX7_landsIn_1 : decode cX7_landsIn 1 = .ok (.istore_n 3, 1) := by decide +kernel
theorem dX7_landsIn_2 : decode cX7_landsIn 2 = .ok (.iconst 0, 1) := by decide +kernel
theorem dX7_landsIn_3 : decode cX7_landsIn 3 = .ok (.istore 4, 2) := by decide +kernel
theorem dX7_landsIn_5 : decode cX7_landsIn 5 = .ok (.iload 4, 2) := by decide +kernel
theorem dX7_landsIn_7 : decode cX7_landsIn 7 = .ok (.aload_n 0, 1) := by decide +kernel
theorem dX7_landsIn_8 : decode cX7_landsIn 8 = .ok (.invokevirtual 90, 3) := by decide +kernel
theorem dX7_landsIn_11 : decode cX7_landsIn 11 = .ok (.if_icmp .ge 32, 3) := by decide +kernel
theorem dX7_landsIn_14 : decode cX7_landsIn 14 = .ok (.aload_n 0, 1) := by decide +kernel
theorem dX7_landsIn_15 : decode cX7_landsIn 15 = .ok (.lload_n 1, 1) := by decide +kernel
theorem dX7_landsIn_16 : decode cX7_landsIn 16 = .ok (.iload 4, 2) := by decide +kernel
theorem dX7_landsIn_18 : decode cX7_landsIn 18 = .ok (.invokevirtual 96, 3) := by decide +kernel
theorem dX7_landsIn_21 : decode cX7_landsIn 21 = .ok (.ifCond .eq 16, 3) := by decide +kernel
theorem dX7_landsIn_24 : decode cX7_landsIn 24 = .ok (.aload_n 0, 1) := by decide +kernel
theorem dX7_landsIn_25 : decode cX7_landsIn 25 = .ok (.iload 4, 2) := by decide +kernel
theorem dX7_landsIn_27 : decode cX7_landsIn 27 = .ok (.invokevirtual 117, 3) := by decide +kernel
theorem dX7_landsIn_30 : decode cX7_landsIn 30 = .ok (.ifCond .eq 7, 3) := by decide +kernel
theorem dX7_landsIn_33 : decode cX7_landsIn 33 = .ok (.iload_n 3, 1) := by decide +kernel
theorem dX7_landsIn_34 : decode cX7_landsIn 34 = .ok (.iconst 1, 1) := by decide +kernel
theorem dX7_landsIn_35 : decode cX7_landsIn 35 = .ok (.iadd, 1) := by decide +kernel
theorem dX7_landsIn_36 : decode cX7_landsIn 36 = .ok (.istore_n 3, 1) := by decide +kernel
theorem dX7_landsIn_37 : decode cX7_landsIn 37 = .ok (.iinc 4 1, 3) := by decide +kernel
theorem dX7_landsIn_40 : decode cX7_landsIn 40 = .ok (.goto (-35), 3) := by decide +kernel
theorem dX7_landsIn_43 : decode cX7_landsIn 43 = .ok (.iload_n 3, 1) := by decide +kernel
theorem dX7_landsIn_44 : decode cX7_landsIn 44 = .ok (.ireturn, 1) := by decide +kernel
theorem dX7_look_0 : decode cX7_look 0 = .ok (.aload_n 0, 1) := by decide +kernel
theorem dX7_look_1 : decode cX7_look 1 = .ok (.iconst 0, 1) := by decide +kernel
theorem dX7_look_2 : decode cX7_look 2 = .ok (.putfield 87, 3) := by decide +kernel
theorem dX7_look_5 : decode cX7_look 5 = .ok (.iload_n 1, 1) := by decide +kernel
theorem dX7_look_6 : decode cX7_look 6 = .ok (.ifCond .ne 8, 3) := by decide +kernel
theorem dX7_look_9 : decode cX7_look 9 = .ok (.aload_n 0, 1) := by decide +kernel
theorem dX7_look_10 : decode cX7_look 10 = .ok (.getfield 7, 3) := by decide +kernel
theorem dX7_look_13 : decode cX7_look 13 = .ok (.ireturn, 1) := by decide +kernel
theorem dX7_look_14 : decode cX7_look 14 = .ok (.iload_n 1, 1) := by decide +kernel
theorem dX7_look_15 : decode cX7_look 15 = .ok (.iconst 1, 1) := by decide +kernel
theorem dX7_look_16 : decode cX7_look 16 = .ok (.if_icmp .ne 8, 3) := by decide +kernel
theorem dX7_look_19 : decode cX7_look 19 = .ok (.aload_n 0, 1) := by decide +kernel
theorem dX7_look_20 : decode cX7_look 20 = .ok (.getfield 13, 3) := by decide +kernel
theorem dX7_look_23 : decode cX7_look 23 = .ok (.ireturn, 1) := by decide +kernel
theorem dX7_look_24 : decode cX7_look 24 = .ok (.iload_n 1, 1) := by decide +kernel
theorem dX7_look_25 : decode cX7_look 25 = .ok (.iconst 2, 1) := by decide +kernel
theorem dX7_look_26 : decode cX7_look 26 = .ok (.if_icmp .ne 8, 3) := by decide +kernel
theorem dX7_look_29 : decode cX7_look 29 = .ok (.aload_n 0, 1) := by decide +kernel
theorem dX7_look_30 : decode cX7_look 30 = .ok (.getfield 100, 3) := by decide +kernel
theorem dX7_look_33 : decode cX7_look 33 = .ok (.ireturn, 1) := by decide +kernel
theorem dX7_look_34 : decode cX7_look 34 = .ok (.iload_n 1, 1) := by decide +kernel
theorem dX7_look_35 : decode cX7_look 35 = .ok (.iconst 3, 1) := by decide +kernel
theorem dX7_look_36 : decode cX7_look 36 = .ok (.if_icmp .ne 12, 3) := by decide +kernel
theorem dX7_look_39 : decode cX7_look 39 = .ok (.aload_n 0, 1) := by decide +kernel
theorem dX7_look_40 : decode cX7_look 40 = .ok (.aload_n 0, 1) := by decide +kernel
theorem dX7_look_41 : decode cX7_look 41 = .ok (.getfield 18, 3) := by decide +kernel
theorem dX7_look_44 : decode cX7_look 44 = .ok (.invokevirtual 120, 3) := by decide +kernel
theorem dX7_look_47 : decode cX7_look 47 = .ok (.ireturn, 1) := by decide +kernel
theorem dX7_look_48 : decode cX7_look 48 = .ok (.iload_n 1, 1) := by decide +kernel
theorem dX7_look_49 : decode cX7_look 49 = .ok (.iconst 4, 1) := by decide +kernel
theorem dX7_look_50 : decode cX7_look 50 = .ok (.if_icmp .ne 12, 3) := by decide +kernel
theorem dX7_look_53 : decode cX7_look 53 = .ok (.aload_n 0, 1) := by decide +kernel
theorem dX7_look_54 : decode cX7_look 54 = .ok (.aload_n 0, 1) := by decide +kernel
theorem dX7_look_55 : decode cX7_look 55 = .ok (.getfield 18, 3) := by decide +kernel
theorem dX7_look_58 : decode cX7_look 58 = .ok (.invokevirtual 124, 3) := by decide +kernel
theorem dX7_look_61 : decode cX7_look 61 = .ok (.ireturn, 1) := by decide +kernel
theorem dX7_look_62 : decode cX7_look 62 = .ok (.iload_n 1, 1) := by decide +kernel
theorem dX7_look_63 : decode cX7_look 63 = .ok (.iconst 5, 1) := by decide +kernel
theorem dX7_look_64 : decode cX7_look 64 = .ok (.if_icmp .ne 8, 3) := by decide +kernel
theorem dX7_look_67 : decode cX7_look 67 = .ok (.aload_n 0, 1) := by decide +kernel
theorem dX7_look_68 : decode cX7_look 68 = .ok (.getfield 22, 3) := by decide +kernel
theorem dX7_look_71 : decode cX7_look 71 = .ok (.ireturn, 1) := by decide +kernel
theorem dX7_look_72 : decode cX7_look 72 = .ok (.iload_n 1, 1) := by decide +kernel
theorem dX7_look_73 : decode cX7_look 73 = .ok (.bipush 6, 2) := by decide +kernel
theorem dX7_look_75 : decode cX7_look 75 = .ok (.if_icmp .ne 8, 3) := by decide +kernel
theorem dX7_look_78 : decode cX7_look 78 = .ok (.aload_n 0, 1) := by decide +kernel
theorem dX7_look_79 : decode cX7_look 79 = .ok (.getfield 127, 3) := by decide +kernel
theorem dX7_look_82 : decode cX7_look 82 = .ok (.ireturn, 1) := by decide +kernel
theorem dX7_look_83 : decode cX7_look 83 = .ok (.iload_n 1, 1) := by decide +kernel
theorem dX7_look_84 : decode cX7_look 84 = .ok (.bipush 7, 2) := by decide +kernel
theorem dX7_look_86 : decode cX7_look 86 = .ok (.if_icmp .ne 8, 3) := by decide +kernel
theorem dX7_look_89 : decode cX7_look 89 = .ok (.aload_n 0, 1) := by decide +kernel
theorem dX7_look_90 : decode cX7_look 90 = .ok (.getfield 103, 3) := by decide +kernel
theorem dX7_look_93 : decode cX7_look 93 = .ok (.ireturn, 1) := by decide +kernel
theorem dX7_look_94 : decode cX7_look 94 = .ok (.iload_n 1, 1) := by decide +kernel
theorem dX7_look_95 : decode cX7_look 95 = .ok (.bipush 8, 2) := by decide +kernel
theorem dX7_look_97 : decode cX7_look 97 = .ok (.if_icmp .ne 8, 3) := by decide +kernel
theorem dX7_look_100 : decode cX7_look 100 = .ok (.aload_n 0, 1) := by decide +kernel
theorem dX7_look_101 : decode cX7_look 101 = .ok (.getfield 106, 3) := by decide +kernel
theorem dX7_look_104 : decode cX7_look 104 = .ok (.ireturn, 1) := by decide +kernel
theorem dX7_look_105 : decode cX7_look 105 = .ok (.iload_n 1, 1) := by decide +kernel
theorem dX7_look_106 : decode cX7_look 106 = .ok (.bipush 10, 2) := by decide +kernel
theorem dX7_look_108 : decode cX7_look 108 = .ok (.if_icmp .lt 19, 3) := by decide +kernel
theorem dX7_look_111 : decode cX7_look 111 = .ok (.iload_n 1, 1) := by decide +kernel
theorem dX7_look_112 : decode cX7_look 112 = .ok (.bipush 16, 2) := by decide +kernel
theorem dX7_look_114 : decode cX7_look 114 = .ok (.if_icmp .ge 13, 3) := by decide +kernel
theorem dX7_look_117 : decode cX7_look 117 = .ok (.aload_n 0, 1) := by decide +kernel
theorem dX7_look_118 : decode cX7_look 118 = .ok (.getfield 32, 3) := by decide +kernel
theorem dX7_look_121 : decode cX7_look 121 = .ok (.iload_n 1, 1) := by decide +kernel
theorem dX7_look_122 : decode cX7_look 122 = .ok (.bipush 10, 2) := by decide +kernel
theorem dX7_look_124 : decode cX7_look 124 = .ok (.isub, 1) := by decide +kernel
theorem dX7_look_125 : decode cX7_look 125 = .ok (.iaload, 1) := by decide +kernel
theorem dX7_look_126 : decode cX7_look 126 = .ok (.ireturn, 1) := by decide +kernel
theorem dX7_look_127 : decode cX7_look 127 = .ok (.iload_n 1, 1) := by decide +kernel
theorem dX7_look_128 : decode cX7_look 128 = .ok (.bipush 100, 2) := by decide +kernel
theorem dX7_look_130 : decode cX7_look 130 = .ok (.if_icmp .lt 26, 3) := by decide +kernel
theorem dX7_look_133 : decode cX7_look 133 = .ok (.aload_n 0, 1) := by decide +kernel
theorem dX7_look_134 : decode cX7_look 134 = .ok (.iload_n 1, 1) := by decide +kernel
theorem dX7_look_135 : decode cX7_look 135 = .ok (.bipush 100, 2) := by decide +kernel
theorem dX7_look_137 : decode cX7_look 137 = .ok (.isub, 1) := by decide +kernel
theorem dX7_look_138 : decode cX7_look 138 = .ok (.invokevirtual 113, 3) := by decide +kernel
theorem dX7_look_141 : decode cX7_look 141 = .ok (.ifCond .eq 15, 3) := by decide +kernel
theorem dX7_look_144 : decode cX7_look 144 = .ok (.aload_n 0, 1) := by decide +kernel
theorem dX7_look_145 : decode cX7_look 145 = .ok (.getfield 25, 3) := by decide +kernel
theorem dX7_look_148 : decode cX7_look 148 = .ok (.iload_n 1, 1) := by decide +kernel
theorem dX7_look_149 : decode cX7_look 149 = .ok (.bipush 100, 2) := by decide +kernel
theorem dX7_look_151 : decode cX7_look 151 = .ok (.isub, 1) := by decide +kernel
theorem dX7_look_152 : decode cX7_look 152 = .ok (.iaload, 1) := by decide +kernel
theorem dX7_look_153 : decode cX7_look 153 = .ok (.iconst 1, 1) := by decide +kernel
theorem dX7_look_154 : decode cX7_look 154 = .ok (.isub, 1) := by decide +kernel
theorem dX7_look_155 : decode cX7_look 155 = .ok (.ireturn, 1) := by decide +kernel
theorem dX7_look_156 : decode cX7_look 156 = .ok (.iload_n 1, 1) := by decide +kernel
theorem dX7_look_157 : decode cX7_look 157 = .ok (.sipush 200, 3) := by decide +kernel
theorem dX7_look_160 : decode cX7_look 160 = .ok (.if_icmp .lt 28, 3) := by decide +kernel
theorem dX7_look_163 : decode cX7_look 163 = .ok (.aload_n 0, 1) := by decide +kernel
theorem dX7_look_164 : decode cX7_look 164 = .ok (.iload_n 1, 1) := by decide +kernel
theorem dX7_look_165 : decode cX7_look 165 = .ok (.sipush 200, 3) := by decide +kernel
theorem dX7_look_168 : decode cX7_look 168 = .ok (.isub, 1) := by decide +kernel
theorem dX7_look_169 : decode cX7_look 169 = .ok (.invokevirtual 113, 3) := by decide +kernel
theorem dX7_look_172 : decode cX7_look 172 = .ok (.ifCond .eq 16, 3) := by decide +kernel
theorem dX7_look_175 : decode cX7_look 175 = .ok (.aload_n 0, 1) := by decide +kernel
theorem dX7_look_176 : decode cX7_look 176 = .ok (.getfield 29, 3) := by decide +kernel
theorem dX7_look_179 : decode cX7_look 179 = .ok (.iload_n 1, 1) := by decide +kernel
theorem dX7_look_180 : decode cX7_look 180 = .ok (.sipush 200, 3) := by decide +kernel
theorem dX7_look_183 : decode cX7_look 183 = .ok (.isub, 1) := by decide +kernel
theorem dX7_look_184 : decode cX7_look 184 = .ok (.iaload, 1) := by decide +kernel
theorem dX7_look_185 : decode cX7_look 185 = .ok (.goto 5, 3) := by decide +kernel
theorem dX7_look_188 : decode cX7_look 188 = .ok (.bipush (-2), 2) := by decide +kernel
theorem dX7_look_190 : decode cX7_look 190 = .ok (.ireturn, 1) := by decide +kernel
theorem dX7_reckoned_0 : decode cX7_reckoned 0 = .ok (.aload_n 0, 1) := by decide +kernel
theorem dX7_reckoned_1 : decode cX7_reckoned 1 = .ok (.iconst 0, 1) := by decide +kernel
theorem dX7_reckoned_2 : decode cX7_reckoned 2 = .ok (.putfield 87, 3) := by decide +kernel
theorem dX7_reckoned_5 : decode cX7_reckoned 5 = .ok (.aload_n 0, 1) := by decide +kernel
theorem dX7_reckoned_6 : decode cX7_reckoned 6 = .ok (.getfield 18, 3) := by decide +kernel
theorem dX7_reckoned_9 : decode cX7_reckoned 9 = .ok (.lreturn, 1) := by decide +kernel
theorem dX7_begin_0 : decode cX7_begin 0 = .ok (.aload_n 0, 1) := by decide +kernel
theorem dX7_begin_1 : decode cX7_begin 1 = .ok (.iconst 0, 1) := by decide +kernel
theorem dX7_begin_2 : decode cX7_begin 2 = .ok (.putfield 87, 3) := by decide +kernel
theorem dX7_begin_5 : decode cX7_begin 5 = .ok (.lload_n 1, 1) := by decide +kernel
theorem dX7_begin_6 : decode cX7_begin 6 = .ok (.lconst 0, 1) := by decide +kernel
theorem dX7_begin_7 : decode cX7_begin 7 = .ok (.lcmp, 1) := by decide +kernel
theorem dX7_begin_8 : decode cX7_begin 8 = .ok (.ifCond .eq 18, 3) := by decide +kernel
theorem dX7_begin_11 : decode cX7_begin 11 = .ok (.lload_n 1, 1) := by decide +kernel
theorem dX7_begin_12 : decode cX7_begin 12 = .ok (.aload_n 0, 1) := by decide +kernel
theorem dX7_begin_13 : decode cX7_begin 13 = .ok (.invokevirtual 109, 3) := by decide +kernel
theorem dX7_begin_16 : decode cX7_begin 16 = .ok (.ldc2_w 94, 3) := by decide +kernel
theorem dX7_begin_19 : decode cX7_begin 19 = .ok (.lxor, 1) := by decide +kernel
theorem dX7_begin_20 : decode cX7_begin 20 = .ok (.land, 1) := by decide +kernel
theorem dX7_begin_21 : decode cX7_begin 21 = .ok (.lconst 0, 1) := by decide +kernel
theorem dX7_begin_22 : decode cX7_begin 22 = .ok (.lcmp, 1) := by decide +kernel
theorem dX7_begin_23 : decode cX7_begin 23 = .ok (.ifCond .eq 5, 3) := by decide +kernel
theorem dX7_begin_26 : decode cX7_begin 26 = .ok (.iconst 0, 1) := by decide +kernel
theorem dX7_begin_27 : decode cX7_begin 27 = .ok (.ireturn, 1) := by decide +kernel
theorem dX7_begin_28 : decode cX7_begin 28 = .ok (.aload_n 0, 1) := by decide +kernel
theorem dX7_begin_29 : decode cX7_begin 29 = .ok (.lload_n 1, 1) := by decide +kernel
theorem dX7_begin_30 : decode cX7_begin 30 = .ok (.putfield 18, 3) := by decide +kernel
theorem dX7_begin_33 : decode cX7_begin 33 = .ok (.aload_n 0, 1) := by decide +kernel
theorem dX7_begin_34 : decode cX7_begin 34 = .ok (.iconst 0, 1) := by decide +kernel
theorem dX7_begin_35 : decode cX7_begin 35 = .ok (.putfield 100, 3) := by decide +kernel
theorem dX7_begin_38 : decode cX7_begin 38 = .ok (.aload_n 0, 1) := by decide +kernel
theorem dX7_begin_39 : decode cX7_begin 39 = .ok (.iconst (-1), 1) := by decide +kernel
theorem dX7_begin_40 : decode cX7_begin 40 = .ok (.putfield 22, 3) := by decide +kernel
theorem dX7_begin_43 : decode cX7_begin 43 = .ok (.iconst 1, 1) := by decide +kernel
theorem dX7_begin_44 : decode cX7_begin 44 = .ok (.ireturn, 1) := by decide +kernel
theorem dX7_put_0 : decode cX7_put 0 = .ok (.aload_n 0, 1) := by decide +kernel
theorem dX7_put_1 : decode cX7_put 1 = .ok (.iconst 0, 1) := by decide +kernel
theorem dX7_put_2 : decode cX7_put 2 = .ok (.putfield 87, 3) := by decide +kernel
theorem dX7_put_5 : decode cX7_put 5 = .ok (.aload_n 0, 1) := by decide +kernel
theorem dX7_put_6 : decode cX7_put 6 = .ok (.iload_n 1, 1) := by decide +kernel
theorem dX7_put_7 : decode cX7_put 7 = .ok (.invokevirtual 113, 3) := by decide +kernel
theorem dX7_put_10 : decode cX7_put 10 = .ok (.ifCond .eq 15, 3) := by decide +kernel
theorem dX7_put_13 : decode cX7_put 13 = .ok (.aload_n 0, 1) := by decide +kernel
theorem dX7_put_14 : decode cX7_put 14 = .ok (.aload_n 0, 1) := by decide +kernel
theorem dX7_put_15 : decode cX7_put 15 = .ok (.getfield 18, 3) := by decide +kernel
theorem dX7_put_18 : decode cX7_put 18 = .ok (.iload_n 1, 1) := by decide +kernel
theorem dX7_put_19 : decode cX7_put 19 = .ok (.invokevirtual 96, 3) := by decide +kernel
theorem dX7_put_22 : decode cX7_put 22 = .ok (.ifCond .ne 5, 3) := by decide +kernel
theorem dX7_put_25 : decode cX7_put 25 = .ok (.iconst 0, 1) := by decide +kernel
theorem dX7_put_26 : decode cX7_put 26 = .ok (.ireturn, 1) := by decide +kernel
theorem dX7_put_27 : decode cX7_put 27 = .ok (.aload_n 0, 1) := by decide +kernel
theorem dX7_put_28 : decode cX7_put 28 = .ok (.iload_n 1, 1) := by decide +kernel
theorem dX7_put_29 : decode cX7_put 29 = .ok (.putfield 22, 3) := by decide +kernel
theorem dX7_put_32 : decode cX7_put 32 = .ok (.iconst 1, 1) := by decide +kernel
theorem dX7_put_33 : decode cX7_put 33 = .ok (.ireturn, 1) := by decide +kernel
theorem dX7_bound_0 : decode cX7_bound 0 = .ok (.iload_n 1, 1) := by decide +kernel
theorem dX7_bound_1 : decode cX7_bound 1 = .ok (.ifCond .ge 7, 3) := by decide +kernel
theorem dX7_bound_4 : decode cX7_bound 4 = .ok (.iconst 0, 1) := by decide +kernel
theorem dX7_bound_5 : decode cX7_bound 5 = .ok (.goto 13, 3) := by decide +kernel
theorem dX7_bound_8 : decode cX7_bound 8 = .ok (.iload_n 1, 1) := by decide +kernel
theorem dX7_bound_9 : decode cX7_bound 9 = .ok (.iload_n 2, 1) := by decide +kernel
theorem dX7_bound_10 : decode cX7_bound 10 = .ok (.if_icmp .le 7, 3) := by decide +kernel
theorem dX7_bound_13 : decode cX7_bound 13 = .ok (.iload_n 2, 1) := by decide +kernel
theorem dX7_bound_14 : decode cX7_bound 14 = .ok (.goto 4, 3) := by decide +kernel
theorem dX7_bound_17 : decode cX7_bound 17 = .ok (.iload_n 1, 1) := by decide +kernel
theorem dX7_bound_18 : decode cX7_bound 18 = .ok (.ireturn, 1) := by decide +kernel
theorem dX7_goes_0 : decode cX7_goes 0 = .ok (.aload_n 0, 1) := by decide +kernel
theorem dX7_goes_1 : decode cX7_goes 1 = .ok (.iload_n 1, 1) := by decide +kernel
theorem dX7_goes_2 : decode cX7_goes 2 = .ok (.invokevirtual 117, 3) := by decide +kernel
theorem dX7_goes_5 : decode cX7_goes 5 = .ok (.ifCond .eq 5, 3) := by decide +kernel
theorem dX7_goes_8 : decode cX7_goes 8 = .ok (.iload_n 1, 1) := by decide +kernel
theorem dX7_goes_9 : decode cX7_goes 9 = .ok (.ireturn, 1) := by decide +kernel
theorem dX7_goes_10 : decode cX7_goes 10 = .ok (.aload_n 0, 1) := by decide +kernel
theorem dX7_goes_11 : decode cX7_goes 11 = .ok (.iload_n 1, 1) := by decide +kernel
theorem dX7_goes_12 : decode cX7_goes 12 = .ok (.aload_n 0, 1) := by decide +kernel
theorem dX7_goes_13 : decode cX7_goes 13 = .ok (.getfield 7, 3) := by decide +kernel
theorem dX7_goes_16 : decode cX7_goes 16 = .ok (.irem, 1) := by decide +kernel
theorem dX7_goes_17 : decode cX7_goes 17 = .ok (.iload_n 2, 1) := by decide +kernel
theorem dX7_goes_18 : decode cX7_goes 18 = .ok (.iconst 3, 1) := by decide +kernel
theorem dX7_goes_19 : decode cX7_goes 19 = .ok (.irem, 1) := by decide +kernel
theorem dX7_goes_20 : decode cX7_goes 20 = .ok (.iadd, 1) := by decide +kernel
theorem dX7_goes_21 : decode cX7_goes 21 = .ok (.iconst 1, 1) := by decide +kernel
theorem dX7_goes_22 : decode cX7_goes 22 = .ok (.isub, 1) := by decide +kernel
theorem dX7_goes_23 : decode cX7_goes 23 = .ok (.iload_n 3, 1) := by decide +kernel
theorem dX7_goes_24 : decode cX7_goes 24 = .ok (.iconst 3, 1) := by decide +kernel
theorem dX7_goes_25 : decode cX7_goes 25 = .ok (.irem, 1) := by decide +kernel
theorem dX7_goes_26 : decode cX7_goes 26 = .ok (.iadd, 1) := by decide +kernel
theorem dX7_goes_27 : decode cX7_goes 27 = .ok (.iconst 1, 1) := by decide +kernel
theorem dX7_goes_28 : decode cX7_goes 28 = .ok (.isub, 1) := by decide +kernel
theorem dX7_goes_29 : decode cX7_goes 29 = .ok (.aload_n 0, 1) := by decide +kernel
theorem dX7_goes_30 : decode cX7_goes 30 = .ok (.getfield 7, 3) := by decide +kernel
theorem dX7_goes_33 : decode cX7_goes 33 = .ok (.iconst 1, 1) := by decide +kernel
theorem dX7_goes_34 : decode cX7_goes 34 = .ok (.isub, 1) := by decide +kernel
theorem dX7_goes_35 : decode cX7_goes 35 = .ok (.invokevirtual 130, 3) := by decide +kernel
theorem dX7_goes_38 : decode cX7_goes 38 = .ok (.istore 4, 2) := by decide +kernel
theorem dX7_goes_40 : decode cX7_goes 40 = .ok (.aload_n 0, 1) := by decide +kernel
theorem dX7_goes_41 : decode cX7_goes 41 = .ok (.iload_n 1, 1) := by decide +kernel
theorem dX7_goes_42 : decode cX7_goes 42 = .ok (.aload_n 0, 1) := by decide +kernel
theorem dX7_goes_43 : decode cX7_goes 43 = .ok (.getfield 7, 3) := by decide +kernel
theorem dX7_goes_46 : decode cX7_goes 46 = .ok (.idiv, 1) := by decide +kernel
theorem dX7_goes_47 : decode cX7_goes 47 = .ok (.iload_n 2, 1) := by decide +kernel
theorem dX7_goes_48 : decode cX7_goes 48 = .ok (.iconst 3, 1) := by decide +kernel
theorem dX7_goes_49 : decode cX7_goes 49 = .ok (.idiv, 1) := by decide +kernel
theorem dX7_goes_50 : decode cX7_goes 50 = .ok (.iadd, 1) := by decide +kernel
theorem dX7_goes_51 : decode cX7_goes 51 = .ok (.iconst 1, 1) := by decide +kernel
theorem dX7_goes_52 : decode cX7_goes 52 = .ok (.isub, 1) := by decide +kernel
theorem dX7_goes_53 : decode cX7_goes 53 = .ok (.iload_n 3, 1) := by decide +kernel
theorem dX7_goes_54 : decode cX7_goes 54 = .ok (.iconst 3, 1) := by decide +kernel
theorem dX7_goes_55 : decode cX7_goes 55 = .ok (.idiv, 1) := by decide +kernel
theorem dX7_goes_56 : decode cX7_goes 56 = .ok (.iadd, 1) := by decide +kernel
theorem dX7_goes_57 : decode cX7_goes 57 = .ok (.iconst 1, 1) := by decide +kernel
theorem dX7_goes_58 : decode cX7_goes 58 = .ok (.isub, 1) := by decide +kernel
theorem dX7_goes_59 : decode cX7_goes 59 = .ok (.aload_n 0, 1) := by decide +kernel
theorem dX7_goes_60 : decode cX7_goes 60 = .ok (.getfield 13, 3) := by decide +kernel
theorem dX7_goes_63 : decode cX7_goes 63 = .ok (.iconst 1, 1) := by decide +kernel
theorem dX7_goes_64 : decode cX7_goes 64 = .ok (.isub, 1) := by decide +kernel
theorem dX7_goes_65 : decode cX7_goes 65 = .ok (.invokevirtual 130, 3) := by decide +kernel
theorem dX7_goes_68 : decode cX7_goes 68 = .ok (.istore 5, 2) := by decide +kernel
theorem dX7_goes_70 : decode cX7_goes 70 = .ok (.aload_n 0, 1) := by decide +kernel
theorem dX7_goes_71 : decode cX7_goes 71 = .ok (.getfield 7, 3) := by decide +kernel
theorem dX7_goes_74 : decode cX7_goes 74 = .ok (.iload 5, 2) := by decide +kernel
theorem dX7_goes_76 : decode cX7_goes 76 = .ok (.imul, 1) := by decide +kernel
theorem dX7_goes_77 : decode cX7_goes 77 = .ok (.iload 4, 2) := by decide +kernel
theorem dX7_goes_79 : decode cX7_goes 79 = .ok (.iadd, 1) := by decide +kernel
theorem dX7_goes_80 : decode cX7_goes 80 = .ok (.ireturn, 1) := by decide +kernel
theorem dX7_goesAll_0 : decode cX7_goesAll 0 = .ok (.lconst 0, 1) := by decide +kernel
theorem dX7_goesAll_1 : decode cX7_goesAll 1 = .ok (.lstore 5, 2) := by decide +kernel
theorem dX7_goesAll_3 : decode cX7_goesAll 3 = .ok (.iconst 0, 1) := by decide +kernel
theorem dX7_goesAll_4 : decode cX7_goesAll 4 = .ok (.istore 7, 2) := by decide +kernel
theorem dX7_goesAll_6 : decode cX7_goesAll 6 = .ok (.iload 7, 2) := by decide +kernel
theorem dX7_goesAll_8 : decode cX7_goesAll 8 = .ok (.aload_n 0, 1) := by decide +kernel
theorem dX7_goesAll_9 : decode cX7_goesAll 9 = .ok (.invokevirtual 90, 3) := by decide +kernel
theorem dX7_goesAll_12 : decode cX7_goesAll 12 = .ok (.if_icmp .ge 70, 3) := by decide +kernel
theorem dX7_goesAll_15 : decode cX7_goesAll 15 = .ok (.aload_n 0, 1) := by decide +kernel
theorem dX7_goesAll_16 : decode cX7_goesAll 16 = .ok (.lload_n 1, 1) := by decide +kernel
theorem dX7_goesAll_17 : decode cX7_goesAll 17 = .ok (.iload 7, 2) := by decide +kernel
theorem dX7_goesAll_19 : decode cX7_goesAll 19 = .ok (.invokevirtual 96, 3) := by decide +kernel
theorem dX7_goesAll_22 : decode cX7_goesAll 22 = .ok (.ifCond .ne 6, 3) := by decide +kernel
theorem dX7_goesAll_25 : decode cX7_goesAll 25 = .ok (.goto 51, 3) := by decide +kernel
theorem dX7_goesAll_28 : decode cX7_goesAll 28 = .ok (.iconst 0, 1) := by decide +kernel
theorem dX7_goesAll_29 : decode cX7_goesAll 29 = .ok (.istore 8, 2) := by decide +kernel
theorem dX7_goesAll_31 : decode cX7_goesAll 31 = .ok (.iload 8, 2) := by decide +kernel
theorem dX7_goesAll_33 : decode cX7_goesAll 33 = .ok (.bipush 9, 2) := by decide +kernel
theorem dX7_goesAll_35 : decode cX7_goesAll 35 = .ok (.if_icmp .ge 41, 3) := by decide +kernel
theorem dX7_goesAll_38 : decode cX7_goesAll 38 = .ok (.aload_n 0, 1) := by decide +kernel
theorem dX7_goesAll_39 : decode cX7_goesAll 39 = .ok (.getfield 32, 3) := by decide +kernel
theorem dX7_goesAll_42 : decode cX7_goesAll 42 = .ok (.iload 4, 2) := by decide +kernel
theorem dX7_goesAll_44 : decode cX7_goesAll 44 = .ok (.iaload, 1) := by decide +kernel
theorem dX7_goesAll_45 : decode cX7_goesAll 45 = .ok (.iload 8, 2) := by decide +kernel
theorem dX7_goesAll_47 : decode cX7_goesAll 47 = .ok (.ishr, 1) := by decide +kernel
theorem dX7_goesAll_48 : decode cX7_goesAll 48 = .ok (.iconst 1, 1) := by decide +kernel
theorem dX7_goesAll_49 : decode cX7_goesAll 49 = .ok (.iand, 1) := by decide +kernel
theorem dX7_goesAll_50 : decode cX7_goesAll 50 = .ok (.iconst 1, 1) := by decide +kernel
theorem dX7_goesAll_51 : decode cX7_goesAll 51 = .ok (.if_icmp .ne 19, 3) := by decide +kernel
theorem dX7_goesAll_54 : decode cX7_goesAll 54 = .ok (.lload 5, 2) := by decide +kernel
theorem dX7_goesAll_56 : decode cX7_goesAll 56 = .ok (.lconst 1, 1) := by decide +kernel
theorem dX7_goesAll_57 : decode cX7_goesAll 57 = .ok (.aload_n 0, 1) := by decide +kernel
theorem dX7_goesAll_58 : decode cX7_goesAll 58 = .ok (.iload 7, 2) := by decide +kernel
theorem dX7_goesAll_60 : decode cX7_goesAll 60 = .ok (.iload_n 3, 1) := by decide +kernel
theorem dX7_goesAll_61 : decode cX7_goesAll 61 = .ok (.iload 8, 2) := by decide +kernel
theorem dX7_goesAll_63 : decode cX7_goesAll 63 = .ok (.invokevirtual 134, 3) := by decide +kernel
theorem dX7_goesAll_66 : decode cX7_goesAll 66 = .ok (.lshl, 1) := by decide +kernel
theorem dX7_goesAll_67 : decode cX7_goesAll 67 = .ok (.lor, 1) := by decide +kernel
theorem dX7_goesAll_68 : decode cX7_goesAll 68 = .ok (.lstore 5, 2) := by decide +kernel
theorem dX7_goesAll_70 : decode cX7_goesAll 70 = .ok (.iinc 8 1, 3) := by decide +kernel
theorem dX7_goesAll_73 : decode cX7_goesAll 73 = .ok (.goto (-42), 3) := by decide +kernel
theorem dX7_goesAll_76 : decode cX7_goesAll 76 = .ok (.iinc 7 1, 3) := by decide +kernel
theorem dX7_goesAll_79 : decode cX7_goesAll 79 = .ok (.goto (-73), 3) := by decide +kernel
theorem dX7_goesAll_82 : decode cX7_goesAll 82 = .ok (.lload 5, 2) := by decide +kernel
theorem dX7_goesAll_84 : decode cX7_goesAll 84 = .ok (.lreturn, 1) := by decide +kernel
theorem dX7_steer_0 : decode cX7_steer 0 = .ok (.aload_n 0, 1) := by decide +kernel
theorem dX7_steer_1 : decode cX7_steer 1 = .ok (.iconst 0, 1) := by decide +kernel
theorem dX7_steer_2 : decode cX7_steer 2 = .ok (.putfield 87, 3) := by decide +kernel
theorem dX7_steer_5 : decode cX7_steer 5 = .ok (.iload_n 1, 1) := by decide +kernel
theorem dX7_steer_6 : decode cX7_steer 6 = .ok (.ifCond .lt 48, 3) := by decide +kernel
theorem dX7_steer_9 : decode cX7_steer 9 = .ok (.iload_n 1, 1) := by decide +kernel
theorem dX7_steer_10 : decode cX7_steer 10 = .ok (.bipush 8, 2) := by decide +kernel
theorem dX7_steer_12 : decode cX7_steer 12 = .ok (.if_icmp .gt 42, 3) := by decide +kernel
theorem dX7_steer_15 : decode cX7_steer 15 = .ok (.iload_n 2, 1) := by decide +kernel
theorem dX7_steer_16 : decode cX7_steer 16 = .ok (.ifCond .lt 38, 3) := by decide +kernel
theorem dX7_steer_19 : decode cX7_steer 19 = .ok (.iload_n 2, 1) := by decide +kernel
theorem dX7_steer_20 : decode cX7_steer 20 = .ok (.bipush 8, 2) := by decide +kernel
theorem dX7_steer_22 : decode cX7_steer 22 = .ok (.if_icmp .gt 32, 3) := by decide +kernel
theorem dX7_steer_25 : decode cX7_steer 25 = .ok (.aload_n 0, 1) := by decide +kernel
theorem dX7_steer_26 : decode cX7_steer 26 = .ok (.getfield 32, 3) := by decide +kernel
theorem dX7_steer_29 : decode cX7_steer 29 = .ok (.aload_n 0, 1) := by decide +kernel
theorem dX7_steer_30 : decode cX7_steer 30 = .ok (.getfield 100, 3) := by decide +kernel
theorem dX7_steer_33 : decode cX7_steer 33 = .ok (.bipush 6, 2) := by decide +kernel
theorem dX7_steer_35 : decode cX7_steer 35 = .ok (.irem, 1) := by decide +kernel
theorem dX7_steer_36 : decode cX7_steer 36 = .ok (.iaload, 1) := by decide +kernel
theorem dX7_steer_37 : decode cX7_steer 37 = .ok (.iload_n 2, 1) := by decide +kernel
theorem dX7_steer_38 : decode cX7_steer 38 = .ok (.ishr, 1) := by decide +kernel
theorem dX7_steer_39 : decode cX7_steer 39 = .ok (.iconst 1, 1) := by decide +kernel
theorem dX7_steer_40 : decode cX7_steer 40 = .ok (.iand, 1) := by decide +kernel
theorem dX7_steer_41 : decode cX7_steer 41 = .ok (.ifCond .eq 13, 3) := by decide +kernel
theorem dX7_steer_44 : decode cX7_steer 44 = .ok (.aload_n 0, 1) := by decide +kernel
theorem dX7_steer_45 : decode cX7_steer 45 = .ok (.getfield 100, 3) := by decide +kernel
theorem dX7_steer_48 : decode cX7_steer 48 = .ok (.sipush 9999, 3) := by decide +kernel
theorem dX7_steer_51 : decode cX7_steer 51 = .ok (.if_icmp .ne 5, 3) := by decide +kernel
theorem dX7_steer_54 : decode cX7_steer 54 = .ok (.iconst (-1), 1) := by decide +kernel
theorem dX7_steer_55 : decode cX7_steer 55 = .ok (.ireturn, 1) := by decide +kernel
theorem dX7_steer_56 : decode cX7_steer 56 = .ok (.aload_n 0, 1) := by decide +kernel
theorem dX7_steer_57 : decode cX7_steer 57 = .ok (.aload_n 0, 1) := by decide +kernel
theorem dX7_steer_58 : decode cX7_steer 58 = .ok (.aload_n 0, 1) := by decide +kernel
theorem dX7_steer_59 : decode cX7_steer 59 = .ok (.getfield 18, 3) := by decide +kernel
theorem dX7_steer_62 : decode cX7_steer 62 = .ok (.iload_n 1, 1) := by decide +kernel
theorem dX7_steer_63 : decode cX7_steer 63 = .ok (.aload_n 0, 1) := by decide +kernel
theorem dX7_steer_64 : decode cX7_steer 64 = .ok (.getfield 100, 3) := by decide +kernel
theorem dX7_steer_67 : decode cX7_steer 67 = .ok (.bipush 6, 2) := by decide +kernel
theorem dX7_steer_69 : decode cX7_steer 69 = .ok (.irem, 1) := by decide +kernel
theorem dX7_steer_70 : decode cX7_steer 70 = .ok (.invokevirtual 138, 3) := by decide +kernel
theorem dX7_steer_73 : decode cX7_steer 73 = .ok (.putfield 18, 3) := by decide +kernel
theorem dX7_steer_76 : decode cX7_steer 76 = .ok (.aload_n 0, 1) := by decide +kernel
theorem dX7_steer_77 : decode cX7_steer 77 = .ok (.getfield 22, 3) := by decide +kernel
theorem dX7_steer_80 : decode cX7_steer 80 = .ok (.iconst (-1), 1) := by decide +kernel
theorem dX7_steer_81 : decode cX7_steer 81 = .ok (.if_icmp .eq 17, 3) := by decide +kernel
theorem dX7_steer_84 : decode cX7_steer 84 = .ok (.aload_n 0, 1) := by decide +kernel
theorem dX7_steer_85 : decode cX7_steer 85 = .ok (.aload_n 0, 1) := by decide +kernel
theorem dX7_steer_86 : decode cX7_steer 86 = .ok (.aload_n 0, 1) := by decide +kernel
theorem dX7_steer_87 : decode cX7_steer 87 = .ok (.getfield 22, 3) := by decide +kernel
theorem dX7_steer_90 : decode cX7_steer 90 = .ok (.iload_n 1, 1) := by decide +kernel
theorem dX7_steer_91 : decode cX7_steer 91 = .ok (.iload_n 2, 1) := by decide +kernel
theorem dX7_steer_92 : decode cX7_steer 92 = .ok (.invokevirtual 134, 3) := by decide +kernel
theorem dX7_steer_95 : decode cX7_steer 95 = .ok (.putfield 22, 3) := by decide +kernel
theorem dX7_steer_98 : decode cX7_steer 98 = .ok (.aload_n 0, 1) := by decide +kernel
theorem dX7_steer_99 : decode cX7_steer 99 = .ok (.aload_n 0, 1) := by decide +kernel
theorem dX7_steer_100 : decode cX7_steer 100 = .ok (.getfield 100, 3) := by decide +kernel
theorem dX7_steer_103 : decode cX7_steer 103 = .ok (.iconst 1, 1) := by decide +kernel
theorem dX7_steer_104 : decode cX7_steer 104 = .ok (.iadd, 1) := by decide +kernel
theorem dX7_steer_105 : decode cX7_steer 105 = .ok (.putfield 100, 3) := by decide +kernel
theorem dX7_steer_108 : decode cX7_steer 108 = .ok (.aload_n 0, 1) := by decide +kernel
theorem dX7_steer_109 : decode cX7_steer 109 = .ok (.aload_n 0, 1) := by decide +kernel
theorem dX7_steer_110 : decode cX7_steer 110 = .ok (.getfield 18, 3) := by decide +kernel
theorem dX7_steer_113 : decode cX7_steer 113 = .ok (.invokevirtual 120, 3) := by decide +kernel
theorem dX7_steer_116 : decode cX7_steer 116 = .ok (.ireturn, 1) := by decide +kernel
theorem dX7_far_0 : decode cX7_far 0 = .ok (.iload_n 1, 1) := by decide +kernel
theorem dX7_far_1 : decode cX7_far 1 = .ok (.iload_n 2, 1) := by decide +kernel
theorem dX7_far_2 : decode cX7_far 2 = .ok (.if_icmp .ge 9, 3) := by decide +kernel
theorem dX7_far_5 : decode cX7_far 5 = .ok (.iload_n 2, 1) := by decide +kernel
theorem dX7_far_6 : decode cX7_far 6 = .ok (.iload_n 1, 1) := by decide +kernel
theorem dX7_far_7 : decode cX7_far 7 = .ok (.isub, 1) := by decide +kernel
theorem dX7_far_8 : decode cX7_far 8 = .ok (.goto 6, 3) := by decide +kernel
theorem dX7_far_11 : decode cX7_far 11 = .ok (.iload_n 1, 1) := by decide +kernel
theorem dX7_far_12 : decode cX7_far 12 = .ok (.iload_n 2, 1) := by decide +kernel
theorem dX7_far_13 : decode cX7_far 13 = .ok (.isub, 1) := by decide +kernel
theorem dX7_far_14 : decode cX7_far 14 = .ok (.ireturn, 1) := by decide +kernel
theorem dX7_signOf_0 : decode cX7_signOf 0 = .ok (.iload_n 3, 1) := by decide +kernel
theorem dX7_signOf_1 : decode cX7_signOf 1 = .ok (.ifCond .ne 10, 3) := by decide +kernel
theorem dX7_signOf_4 : decode cX7_signOf 4 = .ok (.aload_n 0, 1) := by decide +kernel
theorem dX7_signOf_5 : decode cX7_signOf 5 = .ok (.getfield 29, 3) := by decide +kernel
theorem dX7_signOf_8 : decode cX7_signOf 8 = .ok (.iload_n 1, 1) := by decide +kernel
theorem dX7_signOf_9 : decode cX7_signOf 9 = .ok (.iaload, 1) := by decide +kernel
theorem dX7_signOf_10 : decode cX7_signOf 10 = .ok (.ireturn, 1) := by decide +kernel
theorem dX7_signOf_11 : decode cX7_signOf 11 = .ok (.iload_n 3, 1) := by decide +kernel
theorem dX7_signOf_12 : decode cX7_signOf 12 = .ok (.iconst 1, 1) := by decide +kernel
theorem dX7_signOf_13 : decode cX7_signOf 13 = .ok (.if_icmp .ne 28, 3) := by decide +kernel
theorem dX7_signOf_16 : decode cX7_signOf 16 = .ok (.aload_n 0, 1) := by decide +kernel
theorem dX7_signOf_17 : decode cX7_signOf 17 = .ok (.getfield 103, 3) := by decide +kernel
theorem dX7_signOf_20 : decode cX7_signOf 20 = .ok (.iload_n 2, 1) := by decide +kernel
theorem dX7_signOf_21 : decode cX7_signOf 21 = .ok (.ishr, 1) := by decide +kernel
theorem dX7_signOf_22 : decode cX7_signOf 22 = .ok (.iconst 1, 1) := by decide +kernel
theorem dX7_signOf_23 : decode cX7_signOf 23 = .ok (.iand, 1) := by decide +kernel
theorem dX7_signOf_24 : decode cX7_signOf 24 = .ok (.iconst 1, 1) := by decide +kernel
theorem dX7_signOf_25 : decode cX7_signOf 25 = .ok (.if_icmp .ne 14, 3) := by decide +kernel
theorem dX7_signOf_28 : decode cX7_signOf 28 = .ok (.iload_n 1, 1) := by decide +kernel
theorem dX7_signOf_29 : decode cX7_signOf 29 = .ok (.aload_n 0, 1) := by decide +kernel
theorem dX7_signOf_30 : decode cX7_signOf 30 = .ok (.getfield 7, 3) := by decide +kernel
theorem dX7_signOf_33 : decode cX7_signOf 33 = .ok (.idiv, 1) := by decide +kernel
theorem dX7_signOf_34 : decode cX7_signOf 34 = .ok (.iconst 2, 1) := by decide +kernel
theorem dX7_signOf_35 : decode cX7_signOf 35 = .ok (.idiv, 1) := by decide +kernel
theorem dX7_signOf_36 : decode cX7_signOf 36 = .ok (.goto 4, 3) := by decide +kernel
theorem dX7_signOf_39 : decode cX7_signOf 39 = .ok (.iconst (-1), 1) := by decide +kernel
theorem dX7_signOf_40 : decode cX7_signOf 40 = .ok (.ireturn, 1) := by decide +kernel
theorem dX7_signOf_41 : decode cX7_signOf 41 = .ok (.aload_n 0, 1) := by decide +kernel
theorem dX7_signOf_42 : decode cX7_signOf 42 = .ok (.getfield 106, 3) := by decide +kernel
theorem dX7_signOf_45 : decode cX7_signOf 45 = .ok (.iload_n 2, 1) := by decide +kernel
theorem dX7_signOf_46 : decode cX7_signOf 46 = .ok (.ishr, 1) := by decide +kernel
theorem dX7_signOf_47 : decode cX7_signOf 47 = .ok (.iconst 1, 1) := by decide +kernel
theorem dX7_signOf_48 : decode cX7_signOf 48 = .ok (.iand, 1) := by decide +kernel
theorem dX7_signOf_49 : decode cX7_signOf 49 = .ok (.ifCond .ne 5, 3) := by decide +kernel
theorem dX7_signOf_52 : decode cX7_signOf 52 = .ok (.iconst 0, 1) := by decide +kernel
theorem dX7_signOf_53 : decode cX7_signOf 53 = .ok (.ireturn, 1) := by decide +kernel
theorem dX7_signOf_54 : decode cX7_signOf 54 = .ok (.iconst 0, 1) := by decide +kernel
theorem dX7_signOf_55 : decode cX7_signOf 55 = .ok (.istore 4, 2) := by decide +kernel
theorem dX7_signOf_57 : decode cX7_signOf 57 = .ok (.iload 4, 2) := by decide +kernel
theorem dX7_signOf_59 : decode cX7_signOf 59 = .ok (.aload_n 0, 1) := by decide +kernel
theorem dX7_signOf_60 : decode cX7_signOf 60 = .ok (.invokevirtual 90, 3) := by decide +kernel
theorem dX7_signOf_63 : decode cX7_signOf 63 = .ok (.if_icmp .ge 74, 3) := by decide +kernel
theorem dX7_signOf_66 : decode cX7_signOf 66 = .ok (.aload_n 0, 1) := by decide +kernel
theorem dX7_signOf_67 : decode cX7_signOf 67 = .ok (.iload 4, 2) := by decide +kernel
theorem dX7_signOf_69 : decode cX7_signOf 69 = .ok (.invokevirtual 117, 3) := by decide +kernel
theorem dX7_signOf_72 : decode cX7_signOf 72 = .ok (.ifCond .eq 59, 3) := by decide +kernel
theorem dX7_signOf_75 : decode cX7_signOf 75 = .ok (.aload_n 0, 1) := by decide +kernel
theorem dX7_signOf_76 : decode cX7_signOf 76 = .ok (.iload 4, 2) := by decide +kernel
theorem dX7_signOf_78 : decode cX7_signOf 78 = .ok (.aload_n 0, 1) := by decide +kernel
theorem dX7_signOf_79 : decode cX7_signOf 79 = .ok (.getfield 7, 3) := by decide +kernel
theorem dX7_signOf_82 : decode cX7_signOf 82 = .ok (.irem, 1) := by decide +kernel
theorem dX7_signOf_83 : decode cX7_signOf 83 = .ok (.iload_n 1, 1) := by decide +kernel
theorem dX7_signOf_84 : decode cX7_signOf 84 = .ok (.aload_n 0, 1) := by decide +kernel
theorem dX7_signOf_85 : decode cX7_signOf 85 = .ok (.getfield 7, 3) := by decide +kernel
theorem dX7_signOf_88 : decode cX7_signOf 88 = .ok (.irem, 1) := by decide +kernel
theorem dX7_signOf_89 : decode cX7_signOf 89 = .ok (.invokevirtual 142, 3) := by decide +kernel
theorem dX7_signOf_92 : decode cX7_signOf 92 = .ok (.aload_n 0, 1) := by decide +kernel
theorem dX7_signOf_93 : decode cX7_signOf 93 = .ok (.getfield 25, 3) := by decide +kernel
theorem dX7_signOf_96 : decode cX7_signOf 96 = .ok (.iload 4, 2) := by decide +kernel
theorem dX7_signOf_98 : decode cX7_signOf 98 = .ok (.iaload, 1) := by decide +kernel
theorem dX7_signOf_99 : decode cX7_signOf 99 = .ok (.if_icmp .ge 32, 3) := by decide +kernel
theorem dX7_signOf_102 : decode cX7_signOf 102 = .ok (.aload_n 0, 1) := by decide +kernel
theorem dX7_signOf_103 : decode cX7_signOf 103 = .ok (.iload 4, 2) := by decide +kernel
theorem dX7_signOf_105 : decode cX7_signOf 105 = .ok (.aload_n 0, 1) := by decide +kernel
theorem dX7_signOf_106 : decode cX7_signOf 106 = .ok (.getfield 7, 3) := by decide +kernel
theorem dX7_signOf_109 : decode cX7_signOf 109 = .ok (.idiv, 1) := by decide +kernel
theorem dX7_signOf_110 : decode cX7_signOf 110 = .ok (.iload_n 1, 1) := by decide +kernel
theorem dX7_signOf_111 : decode cX7_signOf 111 = .ok (.aload_n 0, 1) := by decide +kernel
theorem dX7_signOf_112 : decode cX7_signOf 112 = .ok (.getfield 7, 3) := by decide +kernel
theorem dX7_signOf_115 : decode cX7_signOf 115 = .ok (.idiv, 1) := by decide +kernel
theorem dX7_signOf_116 : decode cX7_signOf 116 = .ok (.invokevirtual 142, 3) := by decide +kernel
theorem dX7_signOf_119 : decode cX7_signOf 119 = .ok (.aload_n 0, 1) := by decide +kernel
theorem dX7_signOf_120 : decode cX7_signOf 120 = .ok (.getfield 25, 3) := by decide +kernel
theorem dX7_signOf_123 : decode cX7_signOf 123 = .ok (.iload 4, 2) := by decide +kernel
theorem dX7_signOf_125 : decode cX7_signOf 125 = .ok (.iaload, 1) := by decide +kernel
theorem dX7_signOf_126 : decode cX7_signOf 126 = .ok (.if_icmp .ge 5, 3) := by decide +kernel
theorem dX7_signOf_129 : decode cX7_signOf 129 = .ok (.iconst 1, 1) := by decide +kernel
theorem dX7_signOf_130 : decode cX7_signOf 130 = .ok (.ireturn, 1) := by decide +kernel
theorem dX7_signOf_131 : decode cX7_signOf 131 = .ok (.iinc 4 1, 3) := by decide +kernel
theorem dX7_signOf_134 : decode cX7_signOf 134 = .ok (.goto (-77), 3) := by decide +kernel
theorem dX7_signOf_137 : decode cX7_signOf 137 = .ok (.iconst 0, 1) := by decide +kernel
theorem dX7_signOf_138 : decode cX7_signOf 138 = .ok (.ireturn, 1) := by decide +kernel
theorem dX7_sign_0 : decode cX7_sign 0 = .ok (.aload_n 0, 1) := by decide +kernel
theorem dX7_sign_1 : decode cX7_sign 1 = .ok (.iconst 0, 1) := by decide +kernel
theorem dX7_sign_2 : decode cX7_sign 2 = .ok (.putfield 87, 3) := by decide +kernel
theorem dX7_sign_5 : decode cX7_sign 5 = .ok (.aload_n 0, 1) := by decide +kernel
theorem dX7_sign_6 : decode cX7_sign 6 = .ok (.iload_n 1, 1) := by decide +kernel
theorem dX7_sign_7 : decode cX7_sign 7 = .ok (.invokevirtual 113, 3) := by decide +kernel
theorem dX7_sign_10 : decode cX7_sign 10 = .ok (.ifCond .eq 32, 3) := by decide +kernel
theorem dX7_sign_13 : decode cX7_sign 13 = .ok (.iload_n 2, 1) := by decide +kernel
theorem dX7_sign_14 : decode cX7_sign 14 = .ok (.ifCond .lt 28, 3) := by decide +kernel
theorem dX7_sign_17 : decode cX7_sign 17 = .ok (.iload_n 2, 1) := by decide +kernel
theorem dX7_sign_18 : decode cX7_sign 18 = .ok (.bipush 6, 2) := by decide +kernel
theorem dX7_sign_20 : decode cX7_sign 20 = .ok (.if_icmp .ge 22, 3) := by decide +kernel
theorem dX7_sign_23 : decode cX7_sign 23 = .ok (.iload_n 3, 1) := by decide +kernel
theorem dX7_sign_24 : decode cX7_sign 24 = .ok (.ifCond .lt 18, 3) := by decide +kernel
theorem dX7_sign_27 : decode cX7_sign 27 = .ok (.iload_n 3, 1) := by decide +kernel
theorem dX7_sign_28 : decode cX7_sign 28 = .ok (.iconst 3, 1) := by decide +kernel
theorem dX7_sign_29 : decode cX7_sign 29 = .ok (.if_icmp .ge 13, 3) := by decide +kernel
theorem dX7_sign_32 : decode cX7_sign 32 = .ok (.aload_n 0, 1) := by decide +kernel
theorem dX7_sign_33 : decode cX7_sign 33 = .ok (.iload_n 1, 1) := by decide +kernel
theorem dX7_sign_34 : decode cX7_sign 34 = .ok (.iload_n 2, 1) := by decide +kernel
theorem dX7_sign_35 : decode cX7_sign 35 = .ok (.iload_n 3, 1) := by decide +kernel
theorem dX7_sign_36 : decode cX7_sign 36 = .ok (.invokevirtual 145, 3) := by decide +kernel
theorem dX7_sign_39 : decode cX7_sign 39 = .ok (.goto 5, 3) := by decide +kernel
theorem dX7_sign_42 : decode cX7_sign 42 = .ok (.bipush (-2), 2) := by decide +kernel
theorem dX7_sign_44 : decode cX7_sign 44 = .ok (.ireturn, 1) := by decide +kernel
theorem dX7_seen_0 : decode cX7_seen 0 = .ok (.lconst 0, 1) := by decide +kernel
theorem dX7_seen_1 : decode cX7_seen 1 = .ok (.lstore_n 3, 1) := by decide +kernel
theorem dX7_seen_2 : decode cX7_seen 2 = .ok (.iconst 0, 1) := by decide +kernel
theorem dX7_seen_3 : decode cX7_seen 3 = .ok (.istore 5, 2) := by decide +kernel
theorem dX7_seen_5 : decode cX7_seen 5 = .ok (.iload 5, 2) := by decide +kernel
theorem dX7_seen_7 : decode cX7_seen 7 = .ok (.aload_n 0, 1) := by decide +kernel
theorem dX7_seen_8 : decode cX7_seen 8 = .ok (.invokevirtual 90, 3) := by decide +kernel
theorem dX7_seen_11 : decode cX7_seen 11 = .ok (.if_icmp .ge 47, 3) := by decide +kernel
theorem dX7_seen_14 : decode cX7_seen 14 = .ok (.aload_n 0, 1) := by decide +kernel
theorem dX7_seen_15 : decode cX7_seen 15 = .ok (.aload_n 0, 1) := by decide +kernel
theorem dX7_seen_16 : decode cX7_seen 16 = .ok (.getfield 18, 3) := by decide +kernel
theorem dX7_seen_19 : decode cX7_seen 19 = .ok (.iload 5, 2) := by decide +kernel
theorem dX7_seen_21 : decode cX7_seen 21 = .ok (.invokevirtual 96, 3) := by decide +kernel
theorem dX7_seen_24 : decode cX7_seen 24 = .ok (.ifCond .eq 28, 3) := by decide +kernel
theorem dX7_seen_27 : decode cX7_seen 27 = .ok (.aload_n 0, 1) := by decide +kernel
theorem dX7_seen_28 : decode cX7_seen 28 = .ok (.iload 5, 2) := by decide +kernel
theorem dX7_seen_30 : decode cX7_seen 30 = .ok (.aload_n 0, 1) := by decide +kernel
theorem dX7_seen_31 : decode cX7_seen 31 = .ok (.getfield 100, 3) := by decide +kernel
theorem dX7_seen_34 : decode cX7_seen 34 = .ok (.bipush 6, 2) := by decide +kernel
theorem dX7_seen_36 : decode cX7_seen 36 = .ok (.irem, 1) := by decide +kernel
theorem dX7_seen_37 : decode cX7_seen 37 = .ok (.iload_n 1, 1) := by decide +kernel
theorem dX7_seen_38 : decode cX7_seen 38 = .ok (.invokevirtual 145, 3) := by decide +kernel
theorem dX7_seen_41 : decode cX7_seen 41 = .ok (.iload_n 2, 1) := by decide +kernel
theorem dX7_seen_42 : decode cX7_seen 42 = .ok (.if_icmp .ne 10, 3) := by decide +kernel
theorem dX7_seen_45 : decode cX7_seen 45 = .ok (.lload_n 3, 1) := by decide +kernel
theorem dX7_seen_46 : decode cX7_seen 46 = .ok (.lconst 1, 1) := by decide +kernel
theorem dX7_seen_47 : decode cX7_seen 47 = .ok (.iload 5, 2) := by decide +kernel
theorem dX7_seen_49 : decode cX7_seen 49 = .ok (.lshl, 1) := by decide +kernel
theorem dX7_seen_50 : decode cX7_seen 50 = .ok (.lor, 1) := by decide +kernel
theorem dX7_seen_51 : decode cX7_seen 51 = .ok (.lstore_n 3, 1) := by decide +kernel
theorem dX7_seen_52 : decode cX7_seen 52 = .ok (.iinc 5 1, 3) := by decide +kernel
theorem dX7_seen_55 : decode cX7_seen 55 = .ok (.goto (-50), 3) := by decide +kernel
theorem dX7_seen_58 : decode cX7_seen 58 = .ok (.lload_n 3, 1) := by decide +kernel
theorem dX7_seen_59 : decode cX7_seen 59 = .ok (.lreturn, 1) := by decide +kernel
theorem dX7_see_0 : decode cX7_see 0 = .ok (.aload_n 0, 1) := by decide +kernel
theorem dX7_see_1 : decode cX7_see 1 = .ok (.iconst 0, 1) := by decide +kernel
theorem dX7_see_2 : decode cX7_see 2 = .ok (.putfield 87, 3) := by decide +kernel
theorem dX7_see_5 : decode cX7_see 5 = .ok (.iload_n 1, 1) := by decide +kernel
theorem dX7_see_6 : decode cX7_see 6 = .ok (.ifCond .lt 8, 3) := by decide +kernel
theorem dX7_see_9 : decode cX7_see 9 = .ok (.iload_n 1, 1) := by decide +kernel
theorem dX7_see_10 : decode cX7_see 10 = .ok (.iconst 2, 1) := by decide +kernel
theorem dX7_see_11 : decode cX7_see 11 = .ok (.if_icmp .le 5, 3) := by decide +kernel
theorem dX7_see_14 : decode cX7_see 14 = .ok (.iconst (-1), 1) := by decide +kernel
theorem dX7_see_15 : decode cX7_see 15 = .ok (.ireturn, 1) := by decide +kernel
theorem dX7_see_16 : decode cX7_see 16 = .ok (.aload_n 0, 1) := by decide +kernel
theorem dX7_see_17 : decode cX7_see 17 = .ok (.iload_n 1, 1) := by decide +kernel
theorem dX7_see_18 : decode cX7_see 18 = .ok (.iload_n 2, 1) := by decide +kernel
theorem dX7_see_19 : decode cX7_see 19 = .ok (.invokevirtual 148, 3) := by decide +kernel
theorem dX7_see_22 : decode cX7_see 22 = .ok (.lstore_n 3, 1) := by decide +kernel
theorem dX7_see_23 : decode cX7_see 23 = .ok (.lload_n 3, 1) := by decide +kernel
theorem dX7_see_24 : decode cX7_see 24 = .ok (.lconst 0, 1) := by decide +kernel
theorem dX7_see_25 : decode cX7_see 25 = .ok (.lcmp, 1) := by decide +kernel
theorem dX7_see_26 : decode cX7_see 26 = .ok (.ifCond .eq 23, 3) := by decide +kernel
theorem dX7_see_29 : decode cX7_see 29 = .ok (.aload_n 0, 1) := by decide +kernel
theorem dX7_see_30 : decode cX7_see 30 = .ok (.getfield 22, 3) := by decide +kernel
theorem dX7_see_33 : decode cX7_see 33 = .ok (.iconst (-1), 1) := by decide +kernel
theorem dX7_see_34 : decode cX7_see 34 = .ok (.if_icmp .eq 17, 3) := by decide +kernel
theorem dX7_see_37 : decode cX7_see 37 = .ok (.aload_n 0, 1) := by decide +kernel
theorem dX7_see_38 : decode cX7_see 38 = .ok (.lload_n 3, 1) := by decide +kernel
theorem dX7_see_39 : decode cX7_see 39 = .ok (.aload_n 0, 1) := by decide +kernel
theorem dX7_see_40 : decode cX7_see 40 = .ok (.getfield 22, 3) := by decide +kernel
theorem dX7_see_43 : decode cX7_see 43 = .ok (.invokevirtual 96, 3) := by decide +kernel
theorem dX7_see_46 : decode cX7_see 46 = .ok (.ifCond .ne 5, 3) := by decide +kernel
theorem dX7_see_49 : decode cX7_see 49 = .ok (.iconst (-1), 1) := by decide +kernel
theorem dX7_see_50 : decode cX7_see 50 = .ok (.ireturn, 1) := by decide +kernel
theorem dX7_see_51 : decode cX7_see 51 = .ok (.aload_n 0, 1) := by decide +kernel
theorem dX7_see_52 : decode cX7_see 52 = .ok (.lload_n 3, 1) := by decide +kernel
theorem dX7_see_53 : decode cX7_see 53 = .ok (.putfield 18, 3) := by decide +kernel
theorem dX7_see_56 : decode cX7_see 56 = .ok (.aload_n 0, 1) := by decide +kernel
theorem dX7_see_57 : decode cX7_see 57 = .ok (.aload_n 0, 1) := by decide +kernel
theorem dX7_see_58 : decode cX7_see 58 = .ok (.getfield 18, 3) := by decide +kernel
theorem dX7_see_61 : decode cX7_see 61 = .ok (.invokevirtual 120, 3) := by decide +kernel
theorem dX7_see_64 : decode cX7_see 64 = .ok (.ireturn, 1) := by decide +kernel
theorem dX7_sights_0 : decode cX7_sights 0 = .ok (.aload_n 0, 1) := by decide +kernel
theorem dX7_sights_1 : decode cX7_sights 1 = .ok (.iconst 0, 1) := by decide +kernel
theorem dX7_sights_2 : decode cX7_sights 2 = .ok (.putfield 87, 3) := by decide +kernel
theorem dX7_sights_5 : decode cX7_sights 5 = .ok (.aload_n 0, 1) := by decide +kernel
theorem dX7_sights_6 : decode cX7_sights 6 = .ok (.getfield 22, 3) := by decide +kernel
theorem dX7_sights_9 : decode cX7_sights 9 = .ok (.iconst (-1), 1) := by decide +kernel
theorem dX7_sights_10 : decode cX7_sights 10 = .ok (.if_icmp .ne 5, 3) := by decide +kernel
theorem dX7_sights_13 : decode cX7_sights 13 = .ok (.iconst (-1), 1) := by decide +kernel
theorem dX7_sights_14 : decode cX7_sights 14 = .ok (.ireturn, 1) := by decide +kernel
theorem dX7_sights_15 : decode cX7_sights 15 = .ok (.iconst 0, 1) := by decide +kernel
theorem dX7_sights_16 : decode cX7_sights 16 = .ok (.istore_n 1, 1) := by decide +kernel
theorem dX7_sights_17 : decode cX7_sights 17 = .ok (.iload_n 1, 1) := by decide +kernel
theorem dX7_sights_18 : decode cX7_sights 18 = .ok (.iconst 3, 1) := by decide +kernel
theorem dX7_sights_19 : decode cX7_sights 19 = .ok (.if_icmp .ge 34, 3) := by decide +kernel
theorem dX7_sights_22 : decode cX7_sights 22 = .ok (.aload_n 0, 1) := by decide +kernel
theorem dX7_sights_23 : decode cX7_sights 23 = .ok (.aload_n 0, 1) := by decide +kernel
theorem dX7_sights_24 : decode cX7_sights 24 = .ok (.iload_n 1, 1) := by decide +kernel
theorem dX7_sights_25 : decode cX7_sights 25 = .ok (.aload_n 0, 1) := by decide +kernel
theorem dX7_sights_26 : decode cX7_sights 26 = .ok (.aload_n 0, 1) := by decide +kernel
theorem dX7_sights_27 : decode cX7_sights 27 = .ok (.getfield 22, 3) := by decide +kernel
theorem dX7_sights_30 : decode cX7_sights 30 = .ok (.aload_n 0, 1) := by decide +kernel
theorem dX7_sights_31 : decode cX7_sights 31 = .ok (.getfield 100, 3) := by decide +kernel
theorem dX7_sights_34 : decode cX7_sights 34 = .ok (.bipush 6, 2) := by decide +kernel
theorem dX7_sights_36 : decode cX7_sights 36 = .ok (.irem, 1) := by decide +kernel
theorem dX7_sights_37 : decode cX7_sights 37 = .ok (.iload_n 1, 1) := by decide +kernel
theorem dX7_sights_38 : decode cX7_sights 38 = .ok (.invokevirtual 145, 3) := by decide +kernel
theorem dX7_sights_41 : decode cX7_sights 41 = .ok (.invokevirtual 148, 3) := by decide +kernel
theorem dX7_sights_44 : decode cX7_sights 44 = .ok (.putfield 18, 3) := by decide +kernel
theorem dX7_sights_47 : decode cX7_sights 47 = .ok (.iinc 1 1, 3) := by decide +kernel
theorem dX7_sights_50 : decode cX7_sights 50 = .ok (.goto (-33), 3) := by decide +kernel
theorem dX7_sights_53 : decode cX7_sights 53 = .ok (.aload_n 0, 1) := by decide +kernel
theorem dX7_sights_54 : decode cX7_sights 54 = .ok (.aload_n 0, 1) := by decide +kernel
theorem dX7_sights_55 : decode cX7_sights 55 = .ok (.getfield 18, 3) := by decide +kernel
theorem dX7_sights_58 : decode cX7_sights 58 = .ok (.invokevirtual 120, 3) := by decide +kernel
theorem dX7_sights_61 : decode cX7_sights 61 = .ok (.ireturn, 1) := by decide +kernel
theorem dX7_lay_0 : decode cX7_lay 0 = .ok (.bipush 24, 2) := by decide +kernel
theorem dX7_lay_2 : decode cX7_lay 2 = .ok (.istore_n 2, 1) := by decide +kernel
theorem dX7_lay_3 : decode cX7_lay 3 = .ok (.iload_n 2, 1) := by decide +kernel
theorem dX7_lay_4 : decode cX7_lay 4 = .ok (.ifCond .lt 35, 3) := by decide +kernel
theorem dX7_lay_7 : decode cX7_lay 7 = .ok (.aload_n 0, 1) := by decide +kernel
theorem dX7_lay_8 : decode cX7_lay 8 = .ok (.getfield 59, 3) := by decide +kernel
theorem dX7_lay_11 : decode cX7_lay 11 = .ok (.aload_n 0, 1) := by decide +kernel
theorem dX7_lay_12 : decode cX7_lay 12 = .ok (.getfield 152, 3) := by decide +kernel
theorem dX7_lay_15 : decode cX7_lay 15 = .ok (.iload_n 1, 1) := by decide +kernel
theorem dX7_lay_16 : decode cX7_lay 16 = .ok (.iload_n 2, 1) := by decide +kernel
theorem dX7_lay_17 : decode cX7_lay 17 = .ok (.ishr, 1) := by decide +kernel
theorem dX7_lay_18 : decode cX7_lay 18 = .ok (.sipush 255, 3) := by decide +kernel
theorem dX7_lay_21 : decode cX7_lay 21 = .ok (.iand, 1) := by decide +kernel
theorem dX7_lay_22 : decode cX7_lay 22 = .ok (.iastore, 1) := by decide +kernel
theorem dX7_lay_23 : decode cX7_lay 23 = .ok (.aload_n 0, 1) := by decide +kernel
theorem dX7_lay_24 : decode cX7_lay 24 = .ok (.aload_n 0, 1) := by decide +kernel
theorem dX7_lay_25 : decode cX7_lay 25 = .ok (.getfield 152, 3) := by decide +kernel
theorem dX7_lay_28 : decode cX7_lay 28 = .ok (.iconst 1, 1) := by decide +kernel
theorem dX7_lay_29 : decode cX7_lay 29 = .ok (.iadd, 1) := by decide +kernel
theorem dX7_lay_30 : decode cX7_lay 30 = .ok (.putfield 152, 3) := by decide +kernel
theorem dX7_lay_33 : decode cX7_lay 33 = .ok (.iinc 2 (-8), 3) := by decide +kernel
theorem dX7_lay_36 : decode cX7_lay 36 = .ok (.goto (-33), 3) := by decide +kernel
theorem dX7_lay_39 : decode cX7_lay 39 = .ok (.return_, 1) := by decide +kernel
theorem dX7_feed_0 : decode cX7_feed 0 = .ok (.aload_n 0, 1) := by decide +kernel
theorem dX7_feed_1 : decode cX7_feed 1 = .ok (.iconst 0, 1) := by decide +kernel
theorem dX7_feed_2 : decode cX7_feed 2 = .ok (.putfield 87, 3) := by decide +kernel
theorem dX7_feed_5 : decode cX7_feed 5 = .ok (.aload_n 0, 1) := by decide +kernel
theorem dX7_feed_6 : decode cX7_feed 6 = .ok (.getfield 152, 3) := by decide +kernel
theorem dX7_feed_9 : decode cX7_feed 9 = .ok (.bipush 20, 2) := by decide +kernel
theorem dX7_feed_11 : decode cX7_feed 11 = .ok (.iadd, 1) := by decide +kernel
theorem dX7_feed_12 : decode cX7_feed 12 = .ok (.sipush 400, 3) := by decide +kernel
theorem dX7_feed_15 : decode cX7_feed 15 = .ok (.if_icmp .le 5, 3) := by decide +kernel
theorem dX7_feed_18 : decode cX7_feed 18 = .ok (.iconst (-1), 1) := by decide +kernel
theorem dX7_feed_19 : decode cX7_feed 19 = .ok (.ireturn, 1) := by decide +kernel
theorem dX7_feed_20 : decode cX7_feed 20 = .ok (.aload_n 0, 1) := by decide +kernel
theorem dX7_feed_21 : decode cX7_feed 21 = .ok (.iload_n 1, 1) := by decide +kernel
theorem dX7_feed_22 : decode cX7_feed 22 = .ok (.invokevirtual 155, 3) := by decide +kernel
theorem dX7_feed_25 : decode cX7_feed 25 = .ok (.aload_n 0, 1) := by decide +kernel
theorem dX7_feed_26 : decode cX7_feed 26 = .ok (.iload_n 2, 1) := by decide +kernel
theorem dX7_feed_27 : decode cX7_feed 27 = .ok (.invokevirtual 155, 3) := by decide +kernel
theorem dX7_feed_30 : decode cX7_feed 30 = .ok (.aload_n 0, 1) := by decide +kernel
theorem dX7_feed_31 : decode cX7_feed 31 = .ok (.iload_n 3, 1) := by decide +kernel
theorem dX7_feed_32 : decode cX7_feed 32 = .ok (.invokevirtual 155, 3) := by decide +kernel
theorem dX7_feed_35 : decode cX7_feed 35 = .ok (.aload_n 0, 1) := by decide +kernel
theorem dX7_feed_36 : decode cX7_feed 36 = .ok (.iload 4, 2) := by decide +kernel
theorem dX7_feed_38 : decode cX7_feed 38 = .ok (.invokevirtual 155, 3) := by decide +kernel
theorem dX7_feed_41 : decode cX7_feed 41 = .ok (.aload_n 0, 1) := by decide +kernel
theorem dX7_feed_42 : decode cX7_feed 42 = .ok (.iload 5, 2) := by decide +kernel
theorem dX7_feed_44 : decode cX7_feed 44 = .ok (.invokevirtual 155, 3) := by decide +kernel
theorem dX7_feed_47 : decode cX7_feed 47 = .ok (.aload_n 0, 1) := by decide +kernel
theorem dX7_feed_48 : decode cX7_feed 48 = .ok (.getfield 152, 3) := by decide +kernel
theorem dX7_feed_51 : decode cX7_feed 51 = .ok (.ireturn, 1) := by decide +kernel
theorem dX7_end_0 : decode cX7_end 0 = .ok (.aload_n 0, 1) := by decide +kernel
theorem dX7_end_1 : decode cX7_end 1 = .ok (.iconst 0, 1) := by decide +kernel
theorem dX7_end_2 : decode cX7_end 2 = .ok (.putfield 87, 3) := by decide +kernel
theorem dX7_end_5 : decode cX7_end 5 = .ok (.iload_n 1, 1) := by decide +kernel
theorem dX7_end_6 : decode cX7_end 6 = .ok (.ifCond .lt 11, 3) := by decide +kernel
theorem dX7_end_9 : decode cX7_end 9 = .ok (.iload_n 1, 1) := by decide +kernel
theorem dX7_end_10 : decode cX7_end 10 = .ok (.aload_n 0, 1) := by decide +kernel
theorem dX7_end_11 : decode cX7_end 11 = .ok (.getfield 152, 3) := by decide +kernel
theorem dX7_end_14 : decode cX7_end 14 = .ok (.if_icmp .le 5, 3) := by decide +kernel
theorem dX7_end_17 : decode cX7_end 17 = .ok (.iconst (-1), 1) := by decide +kernel
theorem dX7_end_18 : decode cX7_end 18 = .ok (.ireturn, 1) := by decide +kernel
theorem dX7_end_19 : decode cX7_end 19 = .ok (.aload_n 0, 1) := by decide +kernel
theorem dX7_end_20 : decode cX7_end 20 = .ok (.iload_n 1, 1) := by decide +kernel
theorem dX7_end_21 : decode cX7_end 21 = .ok (.putfield 152, 3) := by decide +kernel
theorem dX7_end_24 : decode cX7_end 24 = .ok (.iload_n 1, 1) := by decide +kernel
theorem dX7_end_25 : decode cX7_end 25 = .ok (.ireturn, 1) := by decide +kernel
theorem dX7_fault_0 : decode cX7_fault 0 = .ok (.aload_n 0, 1) := by decide +kernel
theorem dX7_fault_1 : decode cX7_fault 1 = .ok (.iconst 0, 1) := by decide +kernel
theorem dX7_fault_2 : decode cX7_fault 2 = .ok (.putfield 87, 3) := by decide +kernel
theorem dX7_fault_5 : decode cX7_fault 5 = .ok (.iload_n 1, 1) := by decide +kernel
theorem dX7_fault_6 : decode cX7_fault 6 = .ok (.ifCond .ne 10, 3) := by decide +kernel
theorem dX7_fault_9 : decode cX7_fault 9 = .ok (.aload_n 0, 1) := by decide +kernel
theorem dX7_fault_10 : decode cX7_fault 10 = .ok (.getfield 159, 3) := by decide +kernel
theorem dX7_fault_13 : decode cX7_fault 13 = .ok (.goto 16, 3) := by decide +kernel
theorem dX7_fault_16 : decode cX7_fault 16 = .ok (.iload_n 1, 1) := by decide +kernel
theorem dX7_fault_17 : decode cX7_fault 17 = .ok (.iconst 1, 1) := by decide +kernel
theorem dX7_fault_18 : decode cX7_fault 18 = .ok (.if_icmp .ne 10, 3) := by decide +kernel
theorem dX7_fault_21 : decode cX7_fault 21 = .ok (.aload_n 0, 1) := by decide +kernel
theorem dX7_fault_22 : decode cX7_fault 22 = .ok (.getfield 62, 3) := by decide +kernel
theorem dX7_fault_25 : decode cX7_fault 25 = .ok (.goto 4, 3) := by decide +kernel
theorem dX7_fault_28 : decode cX7_fault 28 = .ok (.iconst (-1), 1) := by decide +kernel
theorem dX7_fault_29 : decode cX7_fault 29 = .ok (.ireturn, 1) := by decide +kernel
theorem dX7_raw_0 : decode cX7_raw 0 = .ok (.aload_n 0, 1) := by decide +kernel
theorem dX7_raw_1 : decode cX7_raw 1 = .ok (.getfield 162, 3) := by decide +kernel
theorem dX7_raw_4 : decode cX7_raw 4 = .ok (.iload_n 1, 1) := by decide +kernel
theorem dX7_raw_5 : decode cX7_raw 5 = .ok (.iadd, 1) := by decide +kernel
theorem dX7_raw_6 : decode cX7_raw 6 = .ok (.aload_n 0, 1) := by decide +kernel
theorem dX7_raw_7 : decode cX7_raw 7 = .ok (.getfield 152, 3) := by decide +kernel
theorem dX7_raw_10 : decode cX7_raw 10 = .ok (.if_icmp .ge 17, 3) := by decide +kernel
theorem dX7_raw_13 : decode cX7_raw 13 = .ok (.aload_n 0, 1) := by decide +kernel
theorem dX7_raw_14 : decode cX7_raw 14 = .ok (.getfield 59, 3) := by decide +kernel
theorem dX7_raw_17 : decode cX7_raw 17 = .ok (.aload_n 0, 1) := by decide +kernel
theorem dX7_raw_18 : decode cX7_raw 18 = .ok (.getfield 162, 3) := by decide +kernel
theorem dX7_raw_21 : decode cX7_raw 21 = .ok (.iload_n 1, 1) := by decide +kernel
theorem dX7_raw_22 : decode cX7_raw 22 = .ok (.iadd, 1) := by decide +kernel
theorem dX7_raw_23 : decode cX7_raw 23 = .ok (.iaload, 1) := by decide +kernel
theorem dX7_raw_24 : decode cX7_raw 24 = .ok (.goto 4, 3) := by decide +kernel
theorem dX7_raw_27 : decode cX7_raw 27 = .ok (.iconst (-1), 1) := by decide +kernel
theorem dX7_raw_28 : decode cX7_raw 28 = .ok (.ireturn, 1) := by decide +kernel
theorem dX7_isLetter_0 : decode cX7_isLetter 0 = .ok (.iload_n 1, 1) := by decide +kernel
theorem dX7_isLetter_1 : decode cX7_isLetter 1 = .ok (.bipush 97, 2) := by decide +kernel
theorem dX7_isLetter_3 : decode cX7_isLetter 3 = .ok (.if_icmp .lt 9, 3) := by decide +kernel
theorem dX7_isLetter_6 : decode cX7_isLetter 6 = .ok (.iload_n 1, 1) := by decide +kernel
theorem dX7_isLetter_7 : decode cX7_isLetter 7 = .ok (.bipush 122, 2) := by decide +kernel
theorem dX7_isLetter_9 : decode cX7_isLetter 9 = .ok (.if_icmp .le 15, 3) := by decide +kernel
theorem dX7_isLetter_12 : decode cX7_isLetter 12 = .ok (.iload_n 1, 1) := by decide +kernel
theorem dX7_isLetter_13 : decode cX7_isLetter 13 = .ok (.bipush 65, 2) := by decide +kernel
theorem dX7_isLetter_15 : decode cX7_isLetter 15 = .ok (.if_icmp .lt 13, 3) := by decide +kernel
theorem dX7_isLetter_18 : decode cX7_isLetter 18 = .ok (.iload_n 1, 1) := by decide +kernel
theorem dX7_isLetter_19 : decode cX7_isLetter 19 = .ok (.bipush 90, 2) := by decide +kernel
theorem dX7_isLetter_21 : decode cX7_isLetter 21 = .ok (.if_icmp .gt 7, 3) := by decide +kernel
theorem dX7_isLetter_24 : decode cX7_isLetter 24 = .ok (.iconst 1, 1) := by decide +kernel
theorem dX7_isLetter_25 : decode cX7_isLetter 25 = .ok (.goto 4, 3) := by decide +kernel
theorem dX7_isLetter_28 : decode cX7_isLetter 28 = .ok (.iconst 0, 1) := by decide +kernel
theorem dX7_isLetter_29 : decode cX7_isLetter 29 = .ok (.ireturn, 1) := by decide +kernel
theorem dX7_isDigit_0 : decode cX7_isDigit 0 = .ok (.iload_n 1, 1) := by decide +kernel
theorem dX7_isDigit_1 : decode cX7_isDigit 1 = .ok (.bipush 48, 2) := by decide +kernel
theorem dX7_isDigit_3 : decode cX7_isDigit 3 = .ok (.if_icmp .lt 13, 3) := by decide +kernel
theorem dX7_isDigit_6 : decode cX7_isDigit 6 = .ok (.iload_n 1, 1) := by decide +kernel
theorem dX7_isDigit_7 : decode cX7_isDigit 7 = .ok (.bipush 57, 2) := by decide +kernel
theorem dX7_isDigit_9 : decode cX7_isDigit 9 = .ok (.if_icmp .gt 7, 3) := by decide +kernel
theorem dX7_isDigit_12 : decode cX7_isDigit 12 = .ok (.iconst 1, 1) := by decide +kernel
theorem dX7_isDigit_13 : decode cX7_isDigit 13 = .ok (.goto 4, 3) := by decide +kernel
theorem dX7_isDigit_16 : decode cX7_isDigit 16 = .ok (.iconst 0, 1) := by decide +kernel
theorem dX7_isDigit_17 : decode cX7_isDigit 17 = .ok (.ireturn, 1) := by decide +kernel
theorem dX7_isWord_0 : decode cX7_isWord 0 = .ok (.aload_n 0, 1) := by decide +kernel
theorem dX7_isWord_1 : decode cX7_isWord 1 = .ok (.iconst 0, 1) := by decide +kernel
theorem dX7_isWord_2 : decode cX7_isWord 2 = .ok (.invokevirtual 165, 3) := by decide +kernel
theorem dX7_isWord_5 : decode cX7_isWord 5 = .ok (.iload_n 2, 1) := by decide +kernel
theorem dX7_isWord_6 : decode cX7_isWord 6 = .ok (.if_icmp .ne 22, 3) := by decide +kernel
theorem dX7_isWord_9 : decode cX7_isWord 9 = .ok (.aload_n 0, 1) := by decide +kernel
theorem dX7_isWord_10 : decode cX7_isWord 10 = .ok (.iconst 1, 1) := by decide +kernel
theorem dX7_isWord_11 : decode cX7_isWord 11 = .ok (.invokevirtual 165, 3) := by decide +kernel
theorem dX7_isWord_14 : decode cX7_isWord 14 = .ok (.iload_n 3, 1) := by decide +kernel
theorem dX7_isWord_15 : decode cX7_isWord 15 = .ok (.if_icmp .ne 13, 3) := by decide +kernel
theorem dX7_isWord_18 : decode cX7_isWord 18 = .ok (.aload_n 0, 1) := by decide +kernel
theorem dX7_isWord_19 : decode cX7_isWord 19 = .ok (.iconst 2, 1) := by decide +kernel
theorem dX7_isWord_20 : decode cX7_isWord 20 = .ok (.invokevirtual 165, 3) := by decide +kernel
theorem dX7_isWord_23 : decode cX7_isWord 23 = .ok (.iload 4, 2) := by decide +kernel
theorem dX7_isWord_25 : decode cX7_isWord 25 = .ok (.if_icmp .eq 5, 3) := by decide +kernel
theorem dX7_isWord_28 : decode cX7_isWord 28 = .ok (.iconst 0, 1) := by decide +kernel
theorem dX7_isWord_29 : decode cX7_isWord 29 = .ok (.ireturn, 1) := by decide +kernel
theorem dX7_isWord_30 : decode cX7_isWord 30 = .ok (.iload_n 1, 1) := by decide +kernel
theorem dX7_isWord_31 : decode cX7_isWord 31 = .ok (.iconst 3, 1) := by decide +kernel
theorem dX7_isWord_32 : decode cX7_isWord 32 = .ok (.if_icmp .le 15, 3) := by decide +kernel
theorem dX7_isWord_35 : decode cX7_isWord 35 = .ok (.aload_n 0, 1) := by decide +kernel
theorem dX7_isWord_36 : decode cX7_isWord 36 = .ok (.iconst 3, 1) := by decide +kernel
theorem dX7_isWord_37 : decode cX7_isWord 37 = .ok (.invokevirtual 165, 3) := by decide +kernel
theorem dX7_isWord_40 : decode cX7_isWord 40 = .ok (.iload 5, 2) := by decide +kernel
theorem dX7_isWord_42 : decode cX7_isWord 42 = .ok (.if_icmp .eq 5, 3) := by decide +kernel
theorem dX7_isWord_45 : decode cX7_isWord 45 = .ok (.iconst 0, 1) := by decide +kernel
theorem dX7_isWord_46 : decode cX7_isWord 46 = .ok (.ireturn, 1) := by decide +kernel
theorem dX7_isWord_47 : decode cX7_isWord 47 = .ok (.iload_n 1, 1) := by decide +kernel
theorem dX7_isWord_48 : decode cX7_isWord 48 = .ok (.iconst 5, 1) := by decide +kernel
theorem dX7_isWord_49 : decode cX7_isWord 49 = .ok (.if_icmp .lt 13, 3) := by decide +kernel
theorem dX7_isWord_52 : decode cX7_isWord 52 = .ok (.aload_n 0, 1) := by decide +kernel
theorem dX7_isWord_53 : decode cX7_isWord 53 = .ok (.iconst 4, 1) := by decide +kernel
theorem dX7_isWord_54 : decode cX7_isWord 54 = .ok (.invokevirtual 165, 3) := by decide +kernel
theorem dX7_isWord_57 : decode cX7_isWord 57 = .ok (.iload 6, 2) := by decide +kernel
theorem dX7_isWord_59 : decode cX7_isWord 59 = .ok (.if_icmp .ne 7, 3) := by decide +kernel
theorem dX7_isWord_62 : decode cX7_isWord 62 = .ok (.iconst 1, 1) := by decide +kernel
theorem dX7_isWord_63 : decode cX7_isWord 63 = .ok (.goto 4, 3) := by decide +kernel
theorem dX7_isWord_66 : decode cX7_isWord 66 = .ok (.iconst 0, 1) := by decide +kernel
theorem dX7_isWord_67 : decode cX7_isWord 67 = .ok (.ireturn, 1) := by decide +kernel
theorem dX7_next_0 : decode cX7_next 0 = .ok (.aload_n 0, 1) := by decide +kernel
theorem dX7_next_1 : decode cX7_next 1 = .ok (.iconst 0, 1) := by decide +kernel
theorem dX7_next_2 : decode cX7_next 2 = .ok (.invokevirtual 165, 3) := by decide +kernel
theorem dX7_next_5 : decode cX7_next 5 = .ok (.bipush 32, 2) := by decide +kernel
theorem dX7_next_7 : decode cX7_next 7 = .ok (.if_icmp .eq 13, 3) := by decide +kernel
theorem dX7_next_10 : decode cX7_next 10 = .ok (.aload_n 0, 1) := by decide +kernel
theorem dX7_next_11 : decode cX7_next 11 = .ok (.iconst 0, 1) := by decide +kernel
theorem dX7_next_12 : decode cX7_next 12 = .ok (.invokevirtual 165, 3) := by decide +kernel
theorem dX7_next_15 : decode cX7_next 15 = .ok (.bipush 10, 2) := by decide +kernel
theorem dX7_next_17 : decode cX7_next 17 = .ok (.if_icmp .ne 16, 3) := by decide +kernel
theorem dX7_next_20 : decode cX7_next 20 = .ok (.aload_n 0, 1) := by decide +kernel
theorem dX7_next_21 : decode cX7_next 21 = .ok (.aload_n 0, 1) := by decide +kernel
theorem dX7_next_22 : decode cX7_next 22 = .ok (.getfield 162, 3) := by decide +kernel
theorem dX7_next_25 : decode cX7_next 25 = .ok (.iconst 1, 1) := by decide +kernel
theorem dX7_next_26 : decode cX7_next 26 = .ok (.iadd, 1) := by decide +kernel
theorem dX7_next_27 : decode cX7_next 27 = .ok (.putfield 162, 3) := by decide +kernel
theorem dX7_next_30 : decode cX7_next 30 = .ok (.goto (-30), 3) := by decide +kernel
theorem dX7_next_33 : decode cX7_next 33 = .ok (.aload_n 0, 1) := by decide +kernel
theorem dX7_next_34 : decode cX7_next 34 = .ok (.aload_n 0, 1) := by decide +kernel
theorem dX7_next_35 : decode cX7_next 35 = .ok (.getfield 162, 3) := by decide +kernel
theorem dX7_next_38 : decode cX7_next 38 = .ok (.putfield 169, 3) := by decide +kernel
theorem dX7_next_41 : decode cX7_next 41 = .ok (.aload_n 0, 1) := by decide +kernel
theorem dX7_next_42 : decode cX7_next 42 = .ok (.iconst 1, 1) := by decide +kernel
theorem dX7_next_43 : decode cX7_next 43 = .ok (.putfield 172, 3) := by decide +kernel
theorem dX7_next_46 : decode cX7_next 46 = .ok (.aload_n 0, 1) := by decide +kernel
theorem dX7_next_47 : decode cX7_next 47 = .ok (.iconst 0, 1) := by decide +kernel
theorem dX7_next_48 : decode cX7_next 48 = .ok (.invokevirtual 165, 3) := by decide +kernel
theorem dX7_next_51 : decode cX7_next 51 = .ok (.istore_n 1, 1) := by decide +kernel
theorem dX7_next_52 : decode cX7_next 52 = .ok (.iload_n 1, 1) := by decide +kernel
theorem dX7_next_53 : decode cX7_next 53 = .ok (.iconst (-1), 1) := by decide +kernel
theorem dX7_next_54 : decode cX7_next 54 = .ok (.if_icmp .ne 11, 3) := by decide +kernel
theorem dX7_next_57 : decode cX7_next 57 = .ok (.aload_n 0, 1) := by decide +kernel
theorem dX7_next_58 : decode cX7_next 58 = .ok (.iconst 0, 1) := by decide +kernel
theorem dX7_next_59 : decode cX7_next 59 = .ok (.putfield 172, 3) := by decide +kernel
theorem dX7_next_62 : decode cX7_next 62 = .ok (.goto 317, 3) := by decide +kernel
theorem dX7_next_65 : decode cX7_next 65 = .ok (.aload_n 0, 1) := by decide +kernel
theorem dX7_next_66 : decode cX7_next 66 = .ok (.iload_n 1, 1) := by decide +kernel
theorem dX7_next_67 : decode cX7_next 67 = .ok (.invokevirtual 175, 3) := by decide +kernel
theorem dX7_next_70 : decode cX7_next 70 = .ok (.ifCond .eq 204, 3) := by decide +kernel
theorem dX7_next_73 : decode cX7_next 73 = .ok (.iconst 0, 1) := by decide +kernel
theorem dX7_next_74 : decode cX7_next 74 = .ok (.istore_n 2, 1) := by decide +kernel
theorem dX7_next_75 : decode cX7_next 75 = .ok (.aload_n 0, 1) := by decide +kernel
theorem dX7_next_76 : decode cX7_next 76 = .ok (.aload_n 0, 1) := by decide +kernel
theorem dX7_next_77 : decode cX7_next 77 = .ok (.iload_n 2, 1) := by decide +kernel
theorem dX7_next_78 : decode cX7_next 78 = .ok (.invokevirtual 165, 3) := by decide +kernel
theorem dX7_next_81 : decode cX7_next 81 = .ok (.invokevirtual 175, 3) := by decide +kernel
theorem dX7_next_84 : decode cX7_next 84 = .ok (.ifCond .eq 10, 3) := by decide +kernel
theorem dX7_next_87 : decode cX7_next 87 = .ok (.iload_n 2, 1) := by decide +kernel
theorem dX7_next_88 : decode cX7_next 88 = .ok (.iconst 1, 1) := by decide +kernel
theorem dX7_next_89 : decode cX7_next 89 = .ok (.iadd, 1) := by decide +kernel
theorem dX7_next_90 : decode cX7_next 90 = .ok (.istore_n 2, 1) := by decide +kernel
theorem dX7_next_91 : decode cX7_next 91 = .ok (.goto (-16), 3) := by decide +kernel
theorem dX7_next_94 : decode cX7_next 94 = .ok (.iload_n 2, 1) := by decide +kernel
theorem dX7_next_95 : decode cX7_next 95 = .ok (.iconst 5, 1) := by decide +kernel
theorem dX7_next_96 : decode cX7_next 96 = .ok (.if_icmp .ne 26, 3) := by decide +kernel
theorem dX7_next_99 : decode cX7_next 99 = .ok (.aload_n 0, 1) := by decide +kernel
theorem dX7_next_100 : decode cX7_next 100 = .ok (.iconst 5, 1) := by decide +kernel
theorem dX7_next_101 : decode cX7_next 101 = .ok (.bipush 115, 2) := by decide +kernel
theorem dX7_next_103 : decode cX7_next 103 = .ok (.bipush 116, 2) := by decide +kernel
theorem dX7_next_105 : decode cX7_next 105 = .ok (.bipush 101, 2) := by decide +kernel
theorem dX7_next_107 : decode cX7_next 107 = .ok (.bipush 101, 2) := by decide +kernel
theorem dX7_next_109 : decode cX7_next 109 = .ok (.bipush 114, 2) := by decide +kernel
theorem dX7_next_111 : decode cX7_next 111 = .ok (.invokevirtual 178, 3) := by decide +kernel
theorem dX7_next_114 : decode cX7_next 114 = .ok (.ifCond .eq 8, 3) := by decide +kernel
theorem dX7_next_117 : decode cX7_next 117 = .ok (.aload_n 0, 1) := by decide +kernel
theorem dX7_next_118 : decode cX7_next 118 = .ok (.iconst 2, 1) := by decide +kernel
theorem dX7_next_119 : decode cX7_next 119 = .ok (.putfield 172, 3) := by decide +kernel
theorem dX7_next_122 : decode cX7_next 122 = .ok (.iload_n 2, 1) := by decide +kernel
theorem dX7_next_123 : decode cX7_next 123 = .ok (.iconst 5, 1) := by decide +kernel
theorem dX7_next_124 : decode cX7_next 124 = .ok (.if_icmp .ne 26, 3) := by decide +kernel
theorem dX7_next_127 : decode cX7_next 127 = .ok (.aload_n 0, 1) := by decide +kernel
theorem dX7_next_128 : decode cX7_next 128 = .ok (.iconst 5, 1) := by decide +kernel
theorem dX7_next_129 : decode cX7_next 129 = .ok (.bipush 117, 2) := by decide +kernel
theorem dX7_next_131 : decode cX7_next 131 = .ok (.bipush 110, 2) := by decide +kernel
theorem dX7_next_133 : decode cX7_next 133 = .ok (.bipush 116, 2) := by decide +kernel
theorem dX7_next_135 : decode cX7_next 135 = .ok (.bipush 105, 2) := by decide +kernel
theorem dX7_next_137 : decode cX7_next 137 = .ok (.bipush 108, 2) := by decide +kernel
theorem dX7_next_139 : decode cX7_next 139 = .ok (.invokevirtual 178, 3) := by decide +kernel
theorem dX7_next_142 : decode cX7_next 142 = .ok (.ifCond .eq 8, 3) := by decide +kernel
theorem dX7_next_145 : decode cX7_next 145 = .ok (.aload_n 0, 1) := by decide +kernel
theorem dX7_next_146 : decode cX7_next 146 = .ok (.iconst 3, 1) := by decide +kernel
theorem dX7_next_147 : decode cX7_next 147 = .ok (.putfield 172, 3) := by decide +kernel
theorem dX7_next_150 : decode cX7_next 150 = .ok (.iload_n 2, 1) := by decide +kernel
theorem dX7_next_151 : decode cX7_next 151 = .ok (.iconst 3, 1) := by decide +kernel
theorem dX7_next_152 : decode cX7_next 152 = .ok (.if_icmp .ne 24, 3) := by decide +kernel
theorem dX7_next_155 : decode cX7_next 155 = .ok (.aload_n 0, 1) := by decide +kernel
theorem dX7_next_156 : decode cX7_next 156 = .ok (.iconst 3, 1) := by decide +kernel
theorem dX7_next_157 : decode cX7_next 157 = .ok (.bipush 102, 2) := by decide +kernel
theorem dX7_next_159 : decode cX7_next 159 = .ok (.bipush 111, 2) := by decide +kernel
theorem dX7_next_161 : decode cX7_next 161 = .ok (.bipush 114, 2) := by decide +kernel
theorem dX7_next_163 : decode cX7_next 163 = .ok (.iconst 0, 1) := by decide +kernel
theorem dX7_next_164 : decode cX7_next 164 = .ok (.iconst 0, 1) := by decide +kernel
theorem dX7_next_165 : decode cX7_next 165 = .ok (.invokevirtual 178, 3) := by decide +kernel
theorem dX7_next_168 : decode cX7_next 168 = .ok (.ifCond .eq 8, 3) := by decide +kernel
theorem dX7_next_171 : decode cX7_next 171 = .ok (.aload_n 0, 1) := by decide +kernel
theorem dX7_next_172 : decode cX7_next 172 = .ok (.iconst 4, 1) := by decide +kernel
theorem dX7_next_173 : decode cX7_next 173 = .ok (.putfield 172, 3) := by decide +kernel
theorem dX7_next_176 : decode cX7_next 176 = .ok (.iload_n 2, 1) := by decide +kernel
theorem dX7_next_177 : decode cX7_next 177 = .ok (.iconst 5, 1) := by decide +kernel
theorem dX7_next_178 : decode cX7_next 178 = .ok (.if_icmp .ne 26, 3) := by decide +kernel
theorem dX7_next_181 : decode cX7_next 181 = .ok (.aload_n 0, 1) := by decide +kernel
theorem dX7_next_182 : decode cX7_next 182 = .ok (.iconst 5, 1) := by decide +kernel
theorem dX7_next_183 : decode cX7_next 183 = .ok (.bipush 98, 2) := by decide +kernel
theorem dX7_next_185 : decode cX7_next 185 = .ok (.bipush 105, 2) := by decide +kernel
theorem dX7_next_187 : decode cX7_next 187 = .ok (.bipush 114, 2) := by decide +kernel
theorem dX7_next_189 : decode cX7_next 189 = .ok (.bipush 100, 2) := by decide +kernel
theorem dX7_next_191 : decode cX7_next 191 = .ok (.bipush 115, 2) := by decide +kernel
theorem dX7_next_193 : decode cX7_next 193 = .ok (.invokevirtual 178, 3) := by decide +kernel
theorem dX7_next_196 : decode cX7_next 196 = .ok (.ifCond .eq 8, 3) := by decide +kernel
theorem dX7_next_199 : decode cX7_next 199 = .ok (.aload_n 0, 1) := by decide +kernel
theorem dX7_next_200 : decode cX7_next 200 = .ok (.iconst 5, 1) := by decide +kernel
theorem dX7_next_201 : decode cX7_next 201 = .ok (.putfield 172, 3) := by decide +kernel
theorem dX7_next_204 : decode cX7_next 204 = .ok (.iload_n 2, 1) := by decide +kernel
theorem dX7_next_205 : decode cX7_next 205 = .ok (.iconst 5, 1) := by decide +kernel
theorem dX7_next_206 : decode cX7_next 206 = .ok (.if_icmp .ne 27, 3) := by decide +kernel
theorem dX7_next_209 : decode cX7_next 209 = .ok (.aload_n 0, 1) := by decide +kernel
theorem dX7_next_210 : decode cX7_next 210 = .ok (.iconst 5, 1) := by decide +kernel
theorem dX7_next_211 : decode cX7_next 211 = .ok (.bipush 115, 2) := by decide +kernel
theorem dX7_next_213 : decode cX7_next 213 = .ok (.bipush 119, 2) := by decide +kernel
theorem dX7_next_215 : decode cX7_next 215 = .ok (.bipush 101, 2) := by decide +kernel
theorem dX7_next_217 : decode cX7_next 217 = .ok (.bipush 108, 2) := by decide +kernel
theorem dX7_next_219 : decode cX7_next 219 = .ok (.bipush 108, 2) := by decide +kernel
theorem dX7_next_221 : decode cX7_next 221 = .ok (.invokevirtual 178, 3) := by decide +kernel
theorem dX7_next_224 : decode cX7_next 224 = .ok (.ifCond .eq 9, 3) := by decide +kernel
theorem dX7_next_227 : decode cX7_next 227 = .ok (.aload_n 0, 1) := by decide +kernel
theorem dX7_next_228 : decode cX7_next 228 = .ok (.bipush 6, 2) := by decide +kernel
theorem dX7_next_230 : decode cX7_next 230 = .ok (.putfield 172, 3) := by decide +kernel
theorem dX7_next_233 : decode cX7_next 233 = .ok (.iload_n 2, 1) := by decide +kernel
theorem dX7_next_234 : decode cX7_next 234 = .ok (.iconst 4, 1) := by decide +kernel
theorem dX7_next_235 : decode cX7_next 235 = .ok (.if_icmp .ne 26, 3) := by decide +kernel
theorem dX7_next_238 : decode cX7_next 238 = .ok (.aload_n 0, 1) := by decide +kernel
theorem dX7_next_239 : decode cX7_next 239 = .ok (.iconst 4, 1) := by decide +kernel
theorem dX7_next_240 : decode cX7_next 240 = .ok (.bipush 115, 2) := by decide +kernel
theorem dX7_next_242 : decode cX7_next 242 = .ok (.bipush 116, 2) := by decide +kernel
theorem dX7_next_244 : decode cX7_next 244 = .ok (.bipush 97, 2) := by decide +kernel
theorem dX7_next_246 : decode cX7_next 246 = .ok (.bipush 114, 2) := by decide +kernel
theorem dX7_next_248 : decode cX7_next 248 = .ok (.iconst 0, 1) := by decide +kernel
theorem dX7_next_249 : decode cX7_next 249 = .ok (.invokevirtual 178, 3) := by decide +kernel
theorem dX7_next_252 : decode cX7_next 252 = .ok (.ifCond .eq 9, 3) := by decide +kernel
theorem dX7_next_255 : decode cX7_next 255 = .ok (.aload_n 0, 1) := by decide +kernel
theorem dX7_next_256 : decode cX7_next 256 = .ok (.bipush 7, 2) := by decide +kernel
theorem dX7_next_258 : decode cX7_next 258 = .ok (.putfield 172, 3) := by decide +kernel
theorem dX7_next_261 : decode cX7_next 261 = .ok (.aload_n 0, 1) := by decide +kernel
theorem dX7_next_262 : decode cX7_next 262 = .ok (.aload_n 0, 1) := by decide +kernel
theorem dX7_next_263 : decode cX7_next 263 = .ok (.getfield 162, 3) := by decide +kernel
theorem dX7_next_266 : decode cX7_next 266 = .ok (.iload_n 2, 1) := by decide +kernel
theorem dX7_next_267 : decode cX7_next 267 = .ok (.iadd, 1) := by decide +kernel
theorem dX7_next_268 : decode cX7_next 268 = .ok (.putfield 162, 3) := by decide +kernel
theorem dX7_next_271 : decode cX7_next 271 = .ok (.goto 108, 3) := by decide +kernel
theorem dX7_next_274 : decode cX7_next 274 = .ok (.aload_n 0, 1) := by decide +kernel
theorem dX7_next_275 : decode cX7_next 275 = .ok (.iload_n 1, 1) := by decide +kernel
theorem dX7_next_276 : decode cX7_next 276 = .ok (.invokevirtual 182, 3) := by decide +kernel
theorem dX7_next_279 : decode cX7_next 279 = .ok (.ifCond .eq 78, 3) := by decide +kernel
theorem dX7_next_282 : decode cX7_next 282 = .ok (.iconst 0, 1) := by decide +kernel
theorem dX7_next_283 : decode cX7_next 283 = .ok (.istore_n 2, 1) := by decide +kernel
theorem dX7_next_284 : decode cX7_next 284 = .ok (.aload_n 0, 1) := by decide +kernel
theorem dX7_next_285 : decode cX7_next 285 = .ok (.iconst 0, 1) := by decide +kernel
theorem dX7_next_286 : decode cX7_next 286 = .ok (.putfield 185, 3) := by decide +kernel
theorem dX7_next_289 : decode cX7_next 289 = .ok (.aload_n 0, 1) := by decide +kernel
theorem dX7_next_290 : decode cX7_next 290 = .ok (.aload_n 0, 1) := by decide +kernel
theorem dX7_next_291 : decode cX7_next 291 = .ok (.iconst 0, 1) := by decide +kernel
theorem dX7_next_292 : decode cX7_next 292 = .ok (.invokevirtual 165, 3) := by decide +kernel
theorem dX7_next_295 : decode cX7_next 295 = .ok (.invokevirtual 182, 3) := by decide +kernel
theorem dX7_next_298 : decode cX7_next 298 = .ok (.ifCond .eq 45, 3) := by decide +kernel
theorem dX7_next_301 : decode cX7_next 301 = .ok (.iload_n 2, 1) := by decide +kernel
theorem dX7_next_302 : decode cX7_next 302 = .ok (.iconst 2, 1) := by decide +kernel
theorem dX7_next_303 : decode cX7_next 303 = .ok (.if_icmp .ge 23, 3) := by decide +kernel
theorem dX7_next_306 : decode cX7_next 306 = .ok (.aload_n 0, 1) := by decide +kernel
theorem dX7_next_307 : decode cX7_next 307 = .ok (.bipush 10, 2) := by decide +kernel
theorem dX7_next_309 : decode cX7_next 309 = .ok (.aload_n 0, 1) := by decide +kernel
theorem dX7_next_310 : decode cX7_next 310 = .ok (.getfield 185, 3) := by decide +kernel
theorem dX7_next_313 : decode cX7_next 313 = .ok (.imul, 1) := by decide +kernel
theorem dX7_next_314 : decode cX7_next 314 = .ok (.aload_n 0, 1) := by decide +kernel
theorem dX7_next_315 : decode cX7_next 315 = .ok (.iconst 0, 1) := by decide +kernel
theorem dX7_next_316 : decode cX7_next 316 = .ok (.invokevirtual 165, 3) := by decide +kernel
theorem dX7_next_319 : decode cX7_next 319 = .ok (.iadd, 1) := by decide +kernel
theorem dX7_next_320 : decode cX7_next 320 = .ok (.bipush 48, 2) := by decide +kernel
theorem dX7_next_322 : decode cX7_next 322 = .ok (.isub, 1) := by decide +kernel
theorem dX7_next_323 : decode cX7_next 323 = .ok (.putfield 185, 3) := by decide +kernel
theorem dX7_next_326 : decode cX7_next 326 = .ok (.iload_n 2, 1) := by decide +kernel
theorem dX7_next_327 : decode cX7_next 327 = .ok (.iconst 1, 1) := by decide +kernel
theorem dX7_next_328 : decode cX7_next 328 = .ok (.iadd, 1) := by decide +kernel
theorem dX7_next_329 : decode cX7_next 329 = .ok (.istore_n 2, 1) := by decide +kernel
theorem dX7_next_330 : decode cX7_next 330 = .ok (.aload_n 0, 1) := by decide +kernel
theorem dX7_next_331 : decode cX7_next 331 = .ok (.aload_n 0, 1) := by decide +kernel
theorem dX7_next_332 : decode cX7_next 332 = .ok (.getfield 162, 3) := by decide +kernel
theorem dX7_next_335 : decode cX7_next 335 = .ok (.iconst 1, 1) := by decide +kernel
theorem dX7_next_336 : decode cX7_next 336 = .ok (.iadd, 1) := by decide +kernel
theorem dX7_next_337 : decode cX7_next 337 = .ok (.putfield 162, 3) := by decide +kernel
theorem dX7_next_340 : decode cX7_next 340 = .ok (.goto (-51), 3) := by decide +kernel
theorem dX7_next_343 : decode cX7_next 343 = .ok (.iload_n 2, 1) := by decide +kernel
theorem dX7_next_344 : decode cX7_next 344 = .ok (.iconst 3, 1) := by decide +kernel
theorem dX7_next_345 : decode cX7_next 345 = .ok (.if_icmp .ge 9, 3) := by decide +kernel
theorem dX7_next_348 : decode cX7_next 348 = .ok (.aload_n 0, 1) := by decide +kernel
theorem dX7_next_349 : decode cX7_next 349 = .ok (.bipush 8, 2) := by decide +kernel
theorem dX7_next_351 : decode cX7_next 351 = .ok (.putfield 172, 3) := by decide +kernel
theorem dX7_next_354 : decode cX7_next 354 = .ok (.goto 25, 3) := by decide +kernel
theorem dX7_next_357 : decode cX7_next 357 = .ok (.iload_n 1, 1) := by decide +kernel
theorem dX7_next_358 : decode cX7_next 358 = .ok (.bipush 59, 2) := by decide +kernel
theorem dX7_next_360 : decode cX7_next 360 = .ok (.if_icmp .ne 9, 3) := by decide +kernel
theorem dX7_next_363 : decode cX7_next 363 = .ok (.aload_n 0, 1) := by decide +kernel
theorem dX7_next_364 : decode cX7_next 364 = .ok (.bipush 9, 2) := by decide +kernel
theorem dX7_next_366 : decode cX7_next 366 = .ok (.putfield 172, 3) := by decide +kernel
theorem dX7_next_369 : decode cX7_next 369 = .ok (.aload_n 0, 1) := by decide +kernel
theorem dX7_next_370 : decode cX7_next 370 = .ok (.aload_n 0, 1) := by decide +kernel
theorem dX7_next_371 : decode cX7_next 371 = .ok (.getfield 162, 3) := by decide +kernel
theorem dX7_next_374 : decode cX7_next 374 = .ok (.iconst 1, 1) := by decide +kernel
theorem dX7_next_375 : decode cX7_next 375 = .ok (.iadd, 1) := by decide +kernel
theorem dX7_next_376 : decode cX7_next 376 = .ok (.putfield 162, 3) := by decide +kernel
theorem dX7_next_379 : decode cX7_next 379 = .ok (.return_, 1) := by decide +kernel
theorem dX7_fails_0 : decode cX7_fails 0 = .ok (.aload_n 0, 1) := by decide +kernel
theorem dX7_fails_1 : decode cX7_fails 1 = .ok (.iload_n 1, 1) := by decide +kernel
theorem dX7_fails_2 : decode cX7_fails 2 = .ok (.putfield 159, 3) := by decide +kernel
theorem dX7_fails_5 : decode cX7_fails 5 = .ok (.aload_n 0, 1) := by decide +kernel
theorem dX7_fails_6 : decode cX7_fails 6 = .ok (.aload_n 0, 1) := by decide +kernel
theorem dX7_fails_7 : decode cX7_fails 7 = .ok (.getfield 169, 3) := by decide +kernel
theorem dX7_fails_10 : decode cX7_fails 10 = .ok (.putfield 62, 3) := by decide +kernel
theorem dX7_fails_13 : decode cX7_fails 13 = .ok (.iconst 0, 1) := by decide +kernel
theorem dX7_fails_14 : decode cX7_fails 14 = .ok (.ireturn, 1) := by decide +kernel
theorem dX7_takes_0 : decode cX7_takes 0 = .ok (.aload_n 0, 1) := by decide +kernel
theorem dX7_takes_1 : decode cX7_takes 1 = .ok (.getfield 172, 3) := by decide +kernel
theorem dX7_takes_4 : decode cX7_takes 4 = .ok (.bipush 8, 2) := by decide +kernel
theorem dX7_takes_6 : decode cX7_takes 6 = .ok (.if_icmp .eq 9, 3) := by decide +kernel
theorem dX7_takes_9 : decode cX7_takes 9 = .ok (.aload_n 0, 1) := by decide +kernel
theorem dX7_takes_10 : decode cX7_takes 10 = .ok (.iconst 1, 1) := by decide +kernel
theorem dX7_takes_11 : decode cX7_takes 11 = .ok (.invokevirtual 188, 3) := by decide +kernel
theorem dX7_takes_14 : decode cX7_takes 14 = .ok (.ireturn, 1) := by decide +kernel
theorem dX7_takes_15 : decode cX7_takes 15 = .ok (.aload_n 0, 1) := by decide +kernel
theorem dX7_takes_16 : decode cX7_takes 16 = .ok (.getfield 185, 3) := by decide +kernel
theorem dX7_takes_19 : decode cX7_takes 19 = .ok (.iload_n 1, 1) := by decide +kernel
theorem dX7_takes_20 : decode cX7_takes 20 = .ok (.if_icmp .lt 11, 3) := by decide +kernel
theorem dX7_takes_23 : decode cX7_takes 23 = .ok (.aload_n 0, 1) := by decide +kernel
theorem dX7_takes_24 : decode cX7_takes 24 = .ok (.getfield 185, 3) := by decide +kernel
theorem dX7_takes_27 : decode cX7_takes 27 = .ok (.iload_n 2, 1) := by decide +kernel
theorem dX7_takes_28 : decode cX7_takes 28 = .ok (.if_icmp .le 9, 3) := by decide +kernel
theorem dX7_takes_31 : decode cX7_takes 31 = .ok (.aload_n 0, 1) := by decide +kernel
theorem dX7_takes_32 : decode cX7_takes 32 = .ok (.iconst 2, 1) := by decide +kernel
theorem dX7_takes_33 : decode cX7_takes 33 = .ok (.invokevirtual 188, 3) := by decide +kernel
theorem dX7_takes_36 : decode cX7_takes 36 = .ok (.ireturn, 1) := by decide +kernel
theorem dX7_takes_37 : decode cX7_takes 37 = .ok (.iconst 1, 1) := by decide +kernel
theorem dX7_takes_38 : decode cX7_takes 38 = .ok (.ireturn, 1) := by decide +kernel
theorem dX7_readLine_0 : decode cX7_readLine 0 = .ok (.aload_n 0, 1) := by decide +kernel
theorem dX7_readLine_1 : decode cX7_readLine 1 = .ok (.getfield 191, 3) := by decide +kernel
theorem dX7_readLine_4 : decode cX7_readLine 4 = .ok (.bipush 12, 2) := by decide +kernel
theorem dX7_readLine_6 : decode cX7_readLine 6 = .ok (.if_icmp .ne 9, 3) := by decide +kernel
theorem dX7_readLine_9 : decode cX7_readLine 9 = .ok (.aload_n 0, 1) := by decide +kernel
theorem dX7_readLine_10 : decode cX7_readLine 10 = .ok (.iconst 3, 1) := by decide +kernel
theorem dX7_readLine_11 : decode cX7_readLine 11 = .ok (.invokevirtual 188, 3) := by decide +kernel
theorem dX7_readLine_14 : decode cX7_readLine 14 = .ok (.ireturn, 1) := by decide +kernel
theorem dX7_readLine_15 : decode cX7_readLine 15 = .ok (.aload_n 0, 1) := by decide +kernel
theorem dX7_readLine_16 : decode cX7_readLine 16 = .ok (.invokevirtual 194, 3) := by decide +kernel
theorem dX7_readLine_19 : decode cX7_readLine 19 = .ok (.aload_n 0, 1) := by decide +kernel
theorem dX7_readLine_20 : decode cX7_readLine 20 = .ok (.iconst 0, 1) := by decide +kernel
theorem dX7_readLine_21 : decode cX7_readLine 21 = .ok (.bipush 8, 2) := by decide +kernel
theorem dX7_readLine_23 : decode cX7_readLine 23 = .ok (.invokevirtual 197, 3) := by decide +kernel
theorem dX7_readLine_26 : decode cX7_readLine 26 = .ok (.ifCond .ne 5, 3) := by decide +kernel
theorem dX7_readLine_29 : decode cX7_readLine 29 = .ok (.iconst 0, 1) := by decide +kernel
theorem dX7_readLine_30 : decode cX7_readLine 30 = .ok (.ireturn, 1) := by decide +kernel
theorem dX7_readLine_31 : decode cX7_readLine 31 = .ok (.aload_n 0, 1) := by decide +kernel
theorem dX7_readLine_32 : decode cX7_readLine 32 = .ok (.getfield 47, 3) := by decide +kernel
theorem dX7_readLine_35 : decode cX7_readLine 35 = .ok (.aload_n 0, 1) := by decide +kernel
theorem dX7_readLine_36 : decode cX7_readLine 36 = .ok (.getfield 191, 3) := by decide +kernel
theorem dX7_readLine_39 : decode cX7_readLine 39 = .ok (.aload_n 0, 1) := by decide +kernel
theorem dX7_readLine_40 : decode cX7_readLine 40 = .ok (.getfield 185, 3) := by decide +kernel
theorem dX7_readLine_43 : decode cX7_readLine 43 = .ok (.iastore, 1) := by decide +kernel
theorem dX7_readLine_44 : decode cX7_readLine 44 = .ok (.aload_n 0, 1) := by decide +kernel
theorem dX7_readLine_45 : decode cX7_readLine 45 = .ok (.getfield 50, 3) := by decide +kernel
theorem dX7_readLine_48 : decode cX7_readLine 48 = .ok (.aload_n 0, 1) := by decide +kernel
theorem dX7_readLine_49 : decode cX7_readLine 49 = .ok (.getfield 191, 3) := by decide +kernel
theorem dX7_readLine_52 : decode cX7_readLine 52 = .ok (.iconst 0, 1) := by decide +kernel
theorem dX7_readLine_53 : decode cX7_readLine 53 = .ok (.iastore, 1) := by decide +kernel
theorem dX7_readLine_54 : decode cX7_readLine 54 = .ok (.aload_n 0, 1) := by decide +kernel
theorem dX7_readLine_55 : decode cX7_readLine 55 = .ok (.getfield 53, 3) := by decide +kernel
theorem dX7_readLine_58 : decode cX7_readLine 58 = .ok (.aload_n 0, 1) := by decide +kernel
theorem dX7_readLine_59 : decode cX7_readLine 59 = .ok (.getfield 191, 3) := by decide +kernel
theorem dX7_readLine_62 : decode cX7_readLine 62 = .ok (.iconst 0, 1) := by decide +kernel
theorem dX7_readLine_63 : decode cX7_readLine 63 = .ok (.iastore, 1) := by decide +kernel
theorem dX7_readLine_64 : decode cX7_readLine 64 = .ok (.aload_n 0, 1) := by decide +kernel
theorem dX7_readLine_65 : decode cX7_readLine 65 = .ok (.invokevirtual 194, 3) := by decide +kernel
theorem dX7_readLine_68 : decode cX7_readLine 68 = .ok (.aload_n 0, 1) := by decide +kernel
theorem dX7_readLine_69 : decode cX7_readLine 69 = .ok (.getfield 172, 3) := by decide +kernel
theorem dX7_readLine_72 : decode cX7_readLine 72 = .ok (.iconst 3, 1) := by decide +kernel
theorem dX7_readLine_73 : decode cX7_readLine 73 = .ok (.if_icmp .ne 91, 3) := by decide +kernel
theorem dX7_readLine_76 : decode cX7_readLine 76 = .ok (.aload_n 0, 1) := by decide +kernel
theorem dX7_readLine_77 : decode cX7_readLine 77 = .ok (.invokevirtual 194, 3) := by decide +kernel
theorem dX7_readLine_80 : decode cX7_readLine 80 = .ok (.aload_n 0, 1) := by decide +kernel
theorem dX7_readLine_81 : decode cX7_readLine 81 = .ok (.getfield 172, 3) := by decide +kernel
theorem dX7_readLine_84 : decode cX7_readLine 84 = .ok (.iconst 5, 1) := by decide +kernel
theorem dX7_readLine_85 : decode cX7_readLine 85 = .ok (.if_icmp .eq 27, 3) := by decide +kernel
theorem dX7_readLine_88 : decode cX7_readLine 88 = .ok (.aload_n 0, 1) := by decide +kernel
theorem dX7_readLine_89 : decode cX7_readLine 89 = .ok (.getfield 172, 3) := by decide +kernel
theorem dX7_readLine_92 : decode cX7_readLine 92 = .ok (.bipush 6, 2) := by decide +kernel
theorem dX7_readLine_94 : decode cX7_readLine 94 = .ok (.if_icmp .eq 18, 3) := by decide +kernel
theorem dX7_readLine_97 : decode cX7_readLine 97 = .ok (.aload_n 0, 1) := by decide +kernel
theorem dX7_readLine_98 : decode cX7_readLine 98 = .ok (.getfield 172, 3) := by decide +kernel
theorem dX7_readLine_101 : decode cX7_readLine 101 = .ok (.bipush 7, 2) := by decide +kernel
theorem dX7_readLine_103 : decode cX7_readLine 103 = .ok (.if_icmp .eq 9, 3) := by decide +kernel
theorem dX7_readLine_106 : decode cX7_readLine 106 = .ok (.aload_n 0, 1) := by decide +kernel
theorem dX7_readLine_107 : decode cX7_readLine 107 = .ok (.iconst 1, 1) := by decide +kernel
theorem dX7_readLine_108 : decode cX7_readLine 108 = .ok (.invokevirtual 188, 3) := by decide +kernel
theorem dX7_readLine_111 : decode cX7_readLine 111 = .ok (.ireturn, 1) := by decide +kernel
theorem dX7_readLine_112 : decode cX7_readLine 112 = .ok (.aload_n 0, 1) := by decide +kernel
theorem dX7_readLine_113 : decode cX7_readLine 113 = .ok (.getfield 172, 3) := by decide +kernel
theorem dX7_readLine_116 : decode cX7_readLine 116 = .ok (.istore_n 1, 1) := by decide +kernel
theorem dX7_readLine_117 : decode cX7_readLine 117 = .ok (.aload_n 0, 1) := by decide +kernel
theorem dX7_readLine_118 : decode cX7_readLine 118 = .ok (.getfield 50, 3) := by decide +kernel
theorem dX7_readLine_121 : decode cX7_readLine 121 = .ok (.aload_n 0, 1) := by decide +kernel
theorem dX7_readLine_122 : decode cX7_readLine 122 = .ok (.getfield 191, 3) := by decide +kernel
theorem dX7_readLine_125 : decode cX7_readLine 125 = .ok (.iload_n 1, 1) := by decide +kernel
theorem dX7_readLine_126 : decode cX7_readLine 126 = .ok (.iastore, 1) := by decide +kernel
theorem dX7_readLine_127 : decode cX7_readLine 127 = .ok (.aload_n 0, 1) := by decide +kernel
theorem dX7_readLine_128 : decode cX7_readLine 128 = .ok (.invokevirtual 194, 3) := by decide +kernel
theorem dX7_readLine_131 : decode cX7_readLine 131 = .ok (.iload_n 1, 1) := by decide +kernel
theorem dX7_readLine_132 : decode cX7_readLine 132 = .ok (.iconst 5, 1) := by decide +kernel
theorem dX7_readLine_133 : decode cX7_readLine 133 = .ok (.if_icmp .eq 31, 3) := by decide +kernel
theorem dX7_readLine_136 : decode cX7_readLine 136 = .ok (.aload_n 0, 1) := by decide +kernel
theorem dX7_readLine_137 : decode cX7_readLine 137 = .ok (.iconst 0, 1) := by decide +kernel
theorem dX7_readLine_138 : decode cX7_readLine 138 = .ok (.iconst 3, 1) := by decide +kernel
theorem dX7_readLine_139 : decode cX7_readLine 139 = .ok (.invokevirtual 197, 3) := by decide +kernel
theorem dX7_readLine_142 : decode cX7_readLine 142 = .ok (.ifCond .ne 5, 3) := by decide +kernel
theorem dX7_readLine_145 : decode cX7_readLine 145 = .ok (.iconst 0, 1) := by decide +kernel
theorem dX7_readLine_146 : decode cX7_readLine 146 = .ok (.ireturn, 1) := by decide +kernel
theorem dX7_readLine_147 : decode cX7_readLine 147 = .ok (.aload_n 0, 1) := by decide +kernel
theorem dX7_readLine_148 : decode cX7_readLine 148 = .ok (.getfield 53, 3) := by decide +kernel
theorem dX7_readLine_151 : decode cX7_readLine 151 = .ok (.aload_n 0, 1) := by decide +kernel
theorem dX7_readLine_152 : decode cX7_readLine 152 = .ok (.getfield 191, 3) := by decide +kernel
theorem dX7_readLine_155 : decode cX7_readLine 155 = .ok (.aload_n 0, 1) := by decide +kernel
theorem dX7_readLine_156 : decode cX7_readLine 156 = .ok (.getfield 185, 3) := by decide +kernel
theorem dX7_readLine_159 : decode cX7_readLine 159 = .ok (.iastore, 1) := by decide +kernel
theorem dX7_readLine_160 : decode cX7_readLine 160 = .ok (.aload_n 0, 1) := by decide +kernel
theorem dX7_readLine_161 : decode cX7_readLine 161 = .ok (.invokevirtual 194, 3) := by decide +kernel
theorem dX7_readLine_164 : decode cX7_readLine 164 = .ok (.aload_n 0, 1) := by decide +kernel
theorem dX7_readLine_165 : decode cX7_readLine 165 = .ok (.getfield 172, 3) := by decide +kernel
theorem dX7_readLine_168 : decode cX7_readLine 168 = .ok (.iconst 4, 1) := by decide +kernel
theorem dX7_readLine_169 : decode cX7_readLine 169 = .ok (.if_icmp .eq 9, 3) := by decide +kernel
theorem dX7_readLine_172 : decode cX7_readLine 172 = .ok (.aload_n 0, 1) := by decide +kernel
theorem dX7_readLine_173 : decode cX7_readLine 173 = .ok (.iconst 1, 1) := by decide +kernel
theorem dX7_readLine_174 : decode cX7_readLine 174 = .ok (.invokevirtual 188, 3) := by decide +kernel
theorem dX7_readLine_177 : decode cX7_readLine 177 = .ok (.ireturn, 1) := by decide +kernel
theorem dX7_readLine_178 : decode cX7_readLine 178 = .ok (.aload_n 0, 1) := by decide +kernel
theorem dX7_readLine_179 : decode cX7_readLine 179 = .ok (.invokevirtual 194, 3) := by decide +kernel
theorem dX7_readLine_182 : decode cX7_readLine 182 = .ok (.aload_n 0, 1) := by decide +kernel
theorem dX7_readLine_183 : decode cX7_readLine 183 = .ok (.iconst 1, 1) := by decide +kernel
theorem dX7_readLine_184 : decode cX7_readLine 184 = .ok (.bipush 20, 2) := by decide +kernel
theorem dX7_readLine_186 : decode cX7_readLine 186 = .ok (.invokevirtual 197, 3) := by decide +kernel
theorem dX7_readLine_189 : decode cX7_readLine 189 = .ok (.ifCond .ne 5, 3) := by decide +kernel
theorem dX7_readLine_192 : decode cX7_readLine 192 = .ok (.iconst 0, 1) := by decide +kernel
theorem dX7_readLine_193 : decode cX7_readLine 193 = .ok (.ireturn, 1) := by decide +kernel
theorem dX7_readLine_194 : decode cX7_readLine 194 = .ok (.aload_n 0, 1) := by decide +kernel
theorem dX7_readLine_195 : decode cX7_readLine 195 = .ok (.getfield 56, 3) := by decide +kernel
theorem dX7_readLine_198 : decode cX7_readLine 198 = .ok (.aload_n 0, 1) := by decide +kernel
theorem dX7_readLine_199 : decode cX7_readLine 199 = .ok (.getfield 191, 3) := by decide +kernel
theorem dX7_readLine_202 : decode cX7_readLine 202 = .ok (.aload_n 0, 1) := by decide +kernel
theorem dX7_readLine_203 : decode cX7_readLine 203 = .ok (.getfield 185, 3) := by decide +kernel
theorem dX7_readLine_206 : decode cX7_readLine 206 = .ok (.iastore, 1) := by decide +kernel
theorem dX7_readLine_207 : decode cX7_readLine 207 = .ok (.aload_n 0, 1) := by decide +kernel
theorem dX7_readLine_208 : decode cX7_readLine 208 = .ok (.invokevirtual 194, 3) := by decide +kernel
theorem dX7_readLine_211 : decode cX7_readLine 211 = .ok (.aload_n 0, 1) := by decide +kernel
theorem dX7_readLine_212 : decode cX7_readLine 212 = .ok (.getfield 172, 3) := by decide +kernel
theorem dX7_readLine_215 : decode cX7_readLine 215 = .ok (.bipush 9, 2) := by decide +kernel
theorem dX7_readLine_217 : decode cX7_readLine 217 = .ok (.if_icmp .eq 9, 3) := by decide +kernel
theorem dX7_readLine_220 : decode cX7_readLine 220 = .ok (.aload_n 0, 1) := by decide +kernel
theorem dX7_readLine_221 : decode cX7_readLine 221 = .ok (.iconst 1, 1) := by decide +kernel
theorem dX7_readLine_222 : decode cX7_readLine 222 = .ok (.invokevirtual 188, 3) := by decide +kernel
theorem dX7_readLine_225 : decode cX7_readLine 225 = .ok (.ireturn, 1) := by decide +kernel
theorem dX7_readLine_226 : decode cX7_readLine 226 = .ok (.aload_n 0, 1) := by decide +kernel
theorem dX7_readLine_227 : decode cX7_readLine 227 = .ok (.aload_n 0, 1) := by decide +kernel
theorem dX7_readLine_228 : decode cX7_readLine 228 = .ok (.getfield 191, 3) := by decide +kernel
theorem dX7_readLine_231 : decode cX7_readLine 231 = .ok (.iconst 1, 1) := by decide +kernel
theorem dX7_readLine_232 : decode cX7_readLine 232 = .ok (.iadd, 1) := by decide +kernel
theorem dX7_readLine_233 : decode cX7_readLine 233 = .ok (.putfield 191, 3) := by decide +kernel
theorem dX7_readLine_236 : decode cX7_readLine 236 = .ok (.aload_n 0, 1) := by decide +kernel
theorem dX7_readLine_237 : decode cX7_readLine 237 = .ok (.invokevirtual 194, 3) := by decide +kernel
theorem dX7_readLine_240 : decode cX7_readLine 240 = .ok (.iconst 1, 1) := by decide +kernel
theorem dX7_readLine_241 : decode cX7_readLine 241 = .ok (.ireturn, 1) := by decide +kernel
theorem dX7_readText_0 : decode cX7_readText 0 = .ok (.aload_n 0, 1) := by decide +kernel
theorem dX7_readText_1 : decode cX7_readText 1 = .ok (.iconst 0, 1) := by decide +kernel
theorem dX7_readText_2 : decode cX7_readText 2 = .ok (.putfield 162, 3) := by decide +kernel
theorem dX7_readText_5 : decode cX7_readText 5 = .ok (.aload_n 0, 1) := by decide +kernel
theorem dX7_readText_6 : decode cX7_readText 6 = .ok (.iconst 0, 1) := by decide +kernel
theorem dX7_readText_7 : decode cX7_readText 7 = .ok (.putfield 191, 3) := by decide +kernel
theorem dX7_readText_10 : decode cX7_readText 10 = .ok (.aload_n 0, 1) := by decide +kernel
theorem dX7_readText_11 : decode cX7_readText 11 = .ok (.invokevirtual 194, 3) := by decide +kernel
theorem dX7_readText_14 : decode cX7_readText 14 = .ok (.aload_n 0, 1) := by decide +kernel
theorem dX7_readText_15 : decode cX7_readText 15 = .ok (.getfield 172, 3) := by decide +kernel
theorem dX7_readText_18 : decode cX7_readText 18 = .ok (.iconst 2, 1) := by decide +kernel
theorem dX7_readText_19 : decode cX7_readText 19 = .ok (.if_icmp .ne 12, 3) := by decide +kernel
theorem dX7_readText_22 : decode cX7_readText 22 = .ok (.aload_n 0, 1) := by decide +kernel
theorem dX7_readText_23 : decode cX7_readText 23 = .ok (.invokevirtual 201, 3) := by decide +kernel
theorem dX7_readText_26 : decode cX7_readText 26 = .ok (.ifCond .ne (-12), 3) := by decide +kernel
theorem dX7_readText_29 : decode cX7_readText 29 = .ok (.iconst 0, 1) := by decide +kernel
theorem dX7_readText_30 : decode cX7_readText 30 = .ok (.ireturn, 1) := by decide +kernel
theorem dX7_readText_31 : decode cX7_readText 31 = .ok (.aload_n 0, 1) := by decide +kernel
theorem dX7_readText_32 : decode cX7_readText 32 = .ok (.getfield 172, 3) := by decide +kernel
theorem dX7_readText_35 : decode cX7_readText 35 = .ok (.ifCond .eq 11, 3) := by decide +kernel
