theorem dX12_init_0 : decode cX12_init 0 = .ok (.aload_n 0, 1) := by decide +kernel
theorem dX12_init_1 : decode cX12_init 1 = .ok (.invokespecial 1, 3) := by decide +kernel
theorem dX12_init_4 : decode cX12_init 4 = .ok (.aload_n 0, 1) := by decide +kernel
theorem dX12_init_5 : decode cX12_init 5 = .ok (.iconst 4, 1) := by decide +kernel
theorem dX12_init_6 : decode cX12_init 6 = .ok (.newarray .int, 2) := by decide +kernel
theorem dX12_init_8 : decode cX12_init 8 = .ok (.putfield 7, 3) := by decide +kernel
theorem dX12_init_11 : decode cX12_init 11 = .ok (.aload_n 0, 1) := by decide +kernel
theorem dX12_init_12 : decode cX12_init 12 = .ok (.iconst 4, 1) := by decide +kernel
theorem dX12_init_13 : decode cX12_init 13 = .ok (.newarray .int, 2) := by decide +kernel
theorem dX12_init_15 : decode cX12_init 15 = .ok (.putfield 13, 3) := by decide +kernel
theorem dX12_init_18 : decode cX12_init 18 = .ok (.aload_n 0, 1) := by decide +kernel
theorem dX12_init_19 : decode cX12_init 19 = .ok (.sipush 240, 3) := by decide +kernel
theorem dX12_init_22 : decode cX12_init 22 = .ok (.newarray .int, 2) := by decide +kernel
theorem dX12_init_24 : decode cX12_init 24 = .ok (.putfield 16, 3) := by decide +kernel
theorem dX12_init_27 : decode cX12_init 27 = .ok (.aload_n 0, 1) := by decide +kernel
theorem dX12_init_28 : decode cX12_init 28 = .ok (.bipush 60, 2) := by decide +kernel
theorem dX12_init_30 : decode cX12_init 30 = .ok (.newarray .int, 2) := by decide +kernel
theorem dX12_init_32 : decode cX12_init 32 = .ok (.putfield 19, 3) := by decide +kernel
theorem dX12_init_35 : decode cX12_init 35 = .ok (.aload_n 0, 1) := by decide +kernel
theorem dX12_init_36 : decode cX12_init 36 = .ok (.bipush 126, 2) := by decide +kernel
theorem dX12_init_38 : decode cX12_init 38 = .ok (.newarray .int, 2) := by decide +kernel
theorem dX12_init_40 : decode cX12_init 40 = .ok (.putfield 22, 3) := by decide +kernel
theorem dX12_init_43 : decode cX12_init 43 = .ok (.aload_n 0, 1) := by decide +kernel
theorem dX12_init_44 : decode cX12_init 44 = .ok (.iconst 3, 1) := by decide +kernel
theorem dX12_init_45 : decode cX12_init 45 = .ok (.newarray .int, 2) := by decide +kernel
theorem dX12_init_47 : decode cX12_init 47 = .ok (.putfield 25, 3) := by decide +kernel
theorem dX12_init_50 : decode cX12_init 50 = .ok (.aload_n 0, 1) := by decide +kernel
theorem dX12_init_51 : decode cX12_init 51 = .ok (.bipush 36, 2) := by decide +kernel
theorem dX12_init_53 : decode cX12_init 53 = .ok (.newarray .int, 2) := by decide +kernel
theorem dX12_init_55 : decode cX12_init 55 = .ok (.putfield 28, 3) := by decide +kernel
theorem dX12_init_58 : decode cX12_init 58 = .ok (.aload_n 0, 1) := by decide +kernel
theorem dX12_init_59 : decode cX12_init 59 = .ok (.bipush 24, 2) := by decide +kernel
theorem dX12_init_61 : decode cX12_init 61 = .ok (.newarray .int, 2) := by decide +kernel
theorem dX12_init_63 : decode cX12_init 63 = .ok (.putfield 31, 3) := by decide +kernel
theorem dX12_init_66 : decode cX12_init 66 = .ok (.aload_n 0, 1) := by decide +kernel
theorem dX12_init_67 : decode cX12_init 67 = .ok (.bipush 20, 2) := by decide +kernel
theorem dX12_init_69 : decode cX12_init 69 = .ok (.newarray .int, 2) := by decide +kernel
theorem dX12_init_71 : decode cX12_init 71 = .ok (.putfield 34, 3) := by decide +kernel
theorem dX12_init_74 : decode cX12_init 74 = .ok (.aload_n 0, 1) := by decide +kernel
theorem dX12_init_75 : decode cX12_init 75 = .ok (.bipush 40, 2) := by decide +kernel
theorem dX12_init_77 : decode cX12_init 77 = .ok (.newarray .int, 2) := by decide +kernel
theorem dX12_init_79 : decode cX12_init 79 = .ok (.putfield 37, 3) := by decide +kernel
theorem dX12_init_82 : decode cX12_init 82 = .ok (.aload_n 0, 1) := by decide +kernel
theorem dX12_init_83 : decode cX12_init 83 = .ok (.bipush 8, 2) := by decide +kernel
theorem dX12_init_85 : decode cX12_init 85 = .ok (.newarray .int, 2) := by decide +kernel
theorem dX12_init_87 : decode cX12_init 87 = .ok (.putfield 40, 3) := by decide +kernel
theorem dX12_init_90 : decode cX12_init 90 = .ok (.aload_n 0, 1) := by decide +kernel
theorem dX12_init_91 : decode cX12_init 91 = .ok (.bipush 8, 2) := by decide +kernel
theorem dX12_init_93 : decode cX12_init 93 = .ok (.newarray .int, 2) := by decide +kernel
theorem dX12_init_95 : decode cX12_init 95 = .ok (.putfield 43, 3) := by decide +kernel
theorem dX12_init_98 : decode cX12_init 98 = .ok (.aload_n 0, 1) := by decide +kernel
theorem dX12_init_99 : decode cX12_init 99 = .ok (.bipush 8, 2) := by decide +kernel
theorem dX12_init_101 : decode cX12_init 101 = .ok (.newarray .int, 2) := by decide +kernel
theorem dX12_init_103 : decode cX12_init 103 = .ok (.putfield 46, 3) := by decide +kernel
theorem dX12_init_106 : decode cX12_init 106 = .ok (.aload_n 0, 1) := by decide +kernel
theorem dX12_init_107 : decode cX12_init 107 = .ok (.bipush 8, 2) := by decide +kernel
theorem dX12_init_109 : decode cX12_init 109 = .ok (.newarray .int, 2) := by decide +kernel
theorem dX12_init_111 : decode cX12_init 111 = .ok (.putfield 49, 3) := by decide +kernel
theorem dX12_init_114 : decode cX12_init 114 = .ok (.aload_n 0, 1) := by decide +kernel
theorem dX12_init_115 : decode cX12_init 115 = .ok (.sipush 640, 3) := by decide +kernel
theorem dX12_init_118 : decode cX12_init 118 = .ok (.newarray .int, 2) := by decide +kernel
theorem dX12_init_120 : decode cX12_init 120 = .ok (.putfield 52, 3) := by decide +kernel
theorem dX12_init_123 : decode cX12_init 123 = .ok (.aload_n 0, 1) := by decide +kernel
theorem dX12_init_124 : decode cX12_init 124 = .ok (.bipush 8, 2) := by decide +kernel
theorem dX12_init_126 : decode cX12_init 126 = .ok (.newarray .int, 2) := by decide +kernel
theorem dX12_init_128 : decode cX12_init 128 = .ok (.putfield 55, 3) := by decide +kernel
theorem dX12_init_131 : decode cX12_init 131 = .ok (.aload_n 0, 1) := by decide +kernel
theorem dX12_init_132 : decode cX12_init 132 = .ok (.bipush 8, 2) := by decide +kernel
theorem dX12_init_134 : decode cX12_init 134 = .ok (.newarray .int, 2) := by decide +kernel
theorem dX12_init_136 : decode cX12_init 136 = .ok (.putfield 58, 3) := by decide +kernel
theorem dX12_init_139 : decode cX12_init 139 = .ok (.aload_n 0, 1) := by decide +kernel
theorem dX12_init_140 : decode cX12_init 140 = .ok (.bipush 16, 2) := by decide +kernel
theorem dX12_init_142 : decode cX12_init 142 = .ok (.newarray .int, 2) := by decide +kernel
theorem dX12_init_144 : decode cX12_init 144 = .ok (.putfield 61, 3) := by decide +kernel
theorem dX12_init_147 : decode cX12_init 147 = .ok (.aload_n 0, 1) := by decide +kernel
theorem dX12_init_148 : decode cX12_init 148 = .ok (.bipush 40, 2) := by decide +kernel
theorem dX12_init_150 : decode cX12_init 150 = .ok (.newarray .int, 2) := by decide +kernel
theorem dX12_init_152 : decode cX12_init 152 = .ok (.putfield 64, 3) := by decide +kernel
theorem dX12_init_155 : decode cX12_init 155 = .ok (.aload_n 0, 1) := by decide +kernel
theorem dX12_init_156 : decode cX12_init 156 = .ok (.bipush 40, 2) := by decide +kernel
theorem dX12_init_158 : decode cX12_init 158 = .ok (.newarray .int, 2) := by decide +kernel
theorem dX12_init_160 : decode cX12_init 160 = .ok (.putfield 67, 3) := by decide +kernel
theorem dX12_init_163 : decode cX12_init 163 = .ok (.iconst 0, 1) := by decide +kernel
theorem dX12_init_164 : decode cX12_init 164 = .ok (.istore_n 1, 1) := by decide +kernel
theorem dX12_init_165 : decode cX12_init 165 = .ok (.iload_n 1, 1) := by decide +kernel
theorem dX12_init_166 : decode cX12_init 166 = .ok (.iconst 4, 1) := by decide +kernel
theorem dX12_init_167 : decode cX12_init 167 = .ok (.if_icmp .ge 16, 3) := by decide +kernel
theorem dX12_init_170 : decode cX12_init 170 = .ok (.aload_n 0, 1) := by decide +kernel
theorem dX12_init_171 : decode cX12_init 171 = .ok (.getfield 7, 3) := by decide +kernel
theorem dX12_init_174 : decode cX12_init 174 = .ok (.iload_n 1, 1) := by decide +kernel
theorem dX12_init_175 : decode cX12_init 175 = .ok (.iconst (-1), 1) := by decide +kernel
theorem dX12_init_176 : decode cX12_init 176 = .ok (.iastore, 1) := by decide +kernel
theorem dX12_init_177 : decode cX12_init 177 = .ok (.iinc 1 1, 3) := by decide +kernel
theorem dX12_init_180 : decode cX12_init 180 = .ok (.goto (-15), 3) := by decide +kernel
theorem dX12_init_183 : decode cX12_init 183 = .ok (.aload_n 0, 1) := by decide +kernel
theorem dX12_init_184 : decode cX12_init 184 = .ok (.iconst 2, 1) := by decide +kernel
theorem dX12_init_185 : decode cX12_init 185 = .ok (.putfield 70, 3) := by decide +kernel
theorem dX12_init_188 : decode cX12_init 188 = .ok (.return_, 1) := by decide +kernel
theorem dX12_in_0 : decode cX12_in 0 = .ok (.lload_n 0, 1) := by decide +kernel
theorem dX12_in_1 : decode cX12_in 1 = .ok (.lload_n 2, 1) := by decide +kernel
theorem dX12_in_2 : decode cX12_in 2 = .ok (.lcmp, 1) := by decide +kernel
theorem dX12_in_3 : decode cX12_in 3 = .ok (.ifCond .lt 14, 3) := by decide +kernel
theorem dX12_in_6 : decode cX12_in 6 = .ok (.lload_n 0, 1) := by decide +kernel
theorem dX12_in_7 : decode cX12_in 7 = .ok (.lload 4, 2) := by decide +kernel
theorem dX12_in_9 : decode cX12_in 9 = .ok (.lcmp, 1) := by decide +kernel
theorem dX12_in_10 : decode cX12_in 10 = .ok (.ifCond .gt 7, 3) := by decide +kernel
theorem dX12_in_13 : decode cX12_in 13 = .ok (.iconst 1, 1) := by decide +kernel
theorem dX12_in_14 : decode cX12_in 14 = .ok (.goto 4, 3) := by decide +kernel
theorem dX12_in_17 : decode cX12_in 17 = .ok (.iconst 0, 1) := by decide +kernel
theorem dX12_in_18 : decode cX12_in 18 = .ok (.ireturn, 1) := by decide +kernel
theorem dX12_no_0 : decode cX12_no 0 = .ok (.ldc2_w 74, 3) := by decide +kernel
theorem dX12_no_3 : decode cX12_no 3 = .ok (.iload_n 0, 1) := by decide +kernel
theorem dX12_no_4 : decode cX12_no 4 = .ok (.i2l, 1) := by decide +kernel
theorem dX12_no_5 : decode cX12_no 5 = .ok (.lsub, 1) := by decide +kernel
theorem dX12_no_6 : decode cX12_no 6 = .ok (.lreturn, 1) := by decide +kernel
theorem dX12_isTwo_0 : decode cX12_isTwo 0 = .ok (.iload_n 0, 1) := by decide +kernel
theorem dX12_isTwo_1 : decode cX12_isTwo 1 = .ok (.i2l, 1) := by decide +kernel
theorem dX12_isTwo_2 : decode cX12_isTwo 2 = .ok (.lconst 0, 1) := by decide +kernel
theorem dX12_isTwo_3 : decode cX12_isTwo 3 = .ok (.lconst 1, 1) := by decide +kernel
theorem dX12_isTwo_4 : decode cX12_isTwo 4 = .ok (.invokestatic 76, 3) := by decide +kernel
theorem dX12_isTwo_7 : decode cX12_isTwo 7 = .ok (.ireturn, 1) := by decide +kernel
theorem dX12_isIn_0 : decode cX12_isIn 0 = .ok (.iload_n 0, 1) := by decide +kernel
theorem dX12_isIn_1 : decode cX12_isIn 1 = .ok (.iload_n 1, 1) := by decide +kernel
theorem dX12_isIn_2 : decode cX12_isIn 2 = .ok (.ishr, 1) := by decide +kernel
theorem dX12_isIn_3 : decode cX12_isIn 3 = .ok (.iconst 1, 1) := by decide +kernel
theorem dX12_isIn_4 : decode cX12_isIn 4 = .ok (.iand, 1) := by decide +kernel
theorem dX12_isIn_5 : decode cX12_isIn 5 = .ok (.iconst 1, 1) := by decide +kernel
theorem dX12_isIn_6 : decode cX12_isIn 6 = .ok (.if_icmp .ne 7, 3) := by decide +kernel
theorem dX12_isIn_9 : decode cX12_isIn 9 = .ok (.iconst 1, 1) := by decide +kernel
theorem dX12_isIn_10 : decode cX12_isIn 10 = .ok (.goto 4, 3) := by decide +kernel
theorem dX12_isIn_13 : decode cX12_isIn 13 = .ok (.iconst 0, 1) := by decide +kernel
theorem dX12_isIn_14 : decode cX12_isIn 14 = .ok (.ireturn, 1) := by decide +kernel
theorem dX12_ones_0 : decode cX12_ones 0 = .ok (.iconst 0, 1) := by decide +kernel
theorem dX12_ones_1 : decode cX12_ones 1 = .ok (.istore_n 1, 1) := by decide +kernel
theorem dX12_ones_2 : decode cX12_ones 2 = .ok (.iload_n 0, 1) := by decide +kernel
theorem dX12_ones_3 : decode cX12_ones 3 = .ok (.istore_n 2, 1) := by decide +kernel
theorem dX12_ones_4 : decode cX12_ones 4 = .ok (.iload_n 2, 1) := by decide +kernel
theorem dX12_ones_5 : decode cX12_ones 5 = .ok (.ifCond .eq 15, 3) := by decide +kernel
theorem dX12_ones_8 : decode cX12_ones 8 = .ok (.iinc 1 1, 3) := by decide +kernel
theorem dX12_ones_11 : decode cX12_ones 11 = .ok (.iload_n 2, 1) := by decide +kernel
theorem dX12_ones_12 : decode cX12_ones 12 = .ok (.iload_n 2, 1) := by decide +kernel
theorem dX12_ones_13 : decode cX12_ones 13 = .ok (.iconst 1, 1) := by decide +kernel
theorem dX12_ones_14 : decode cX12_ones 14 = .ok (.isub, 1) := by decide +kernel
theorem dX12_ones_15 : decode cX12_ones 15 = .ok (.iand, 1) := by decide +kernel
theorem dX12_ones_16 : decode cX12_ones 16 = .ok (.istore_n 2, 1) := by decide +kernel
theorem dX12_ones_17 : decode cX12_ones 17 = .ok (.goto (-13), 3) := by decide +kernel
theorem dX12_ones_20 : decode cX12_ones 20 = .ok (.iload_n 1, 1) := by decide +kernel
theorem dX12_ones_21 : decode cX12_ones 21 = .ok (.ireturn, 1) := by decide +kernel
theorem dX12_lesser_0 : decode cX12_lesser 0 = .ok (.iload_n 0, 1) := by decide +kernel
theorem dX12_lesser_1 : decode cX12_lesser 1 = .ok (.iload_n 1, 1) := by decide +kernel
theorem dX12_lesser_2 : decode cX12_lesser 2 = .ok (.if_icmp .ge 7, 3) := by decide +kernel
theorem dX12_lesser_5 : decode cX12_lesser 5 = .ok (.iload_n 0, 1) := by decide +kernel
theorem dX12_lesser_6 : decode cX12_lesser 6 = .ok (.goto 4, 3) := by decide +kernel
theorem dX12_lesser_9 : decode cX12_lesser 9 = .ok (.iload_n 1, 1) := by decide +kernel
theorem dX12_lesser_10 : decode cX12_lesser 10 = .ok (.ireturn, 1) := by decide +kernel
theorem dX12_greater_0 : decode cX12_greater 0 = .ok (.iload_n 0, 1) := by decide +kernel
theorem dX12_greater_1 : decode cX12_greater 1 = .ok (.iload_n 1, 1) := by decide +kernel
theorem dX12_greater_2 : decode cX12_greater 2 = .ok (.if_icmp .le 7, 3) := by decide +kernel
theorem dX12_greater_5 : decode cX12_greater 5 = .ok (.iload_n 0, 1) := by decide +kernel
theorem dX12_greater_6 : decode cX12_greater 6 = .ok (.goto 4, 3) := by decide +kernel
theorem dX12_greater_9 : decode cX12_greater 9 = .ok (.iload_n 1, 1) := by decide +kernel
theorem dX12_greater_10 : decode cX12_greater 10 = .ok (.ireturn, 1) := by decide +kernel
theorem dX12_part_0 : decode cX12_part 0 = .ok (.lload_n 0, 1) := by decide +kernel
theorem dX12_part_1 : decode cX12_part 1 = .ok (.lstore 5, 2) := by decide +kernel
theorem dX12_part_3 : decode cX12_part 3 = .ok (.lload_n 2, 1) := by decide +kernel
theorem dX12_part_4 : decode cX12_part 4 = .ok (.lstore 7, 2) := by decide +kernel
theorem dX12_part_6 : decode cX12_part 6 = .ok (.lload 7, 2) := by decide +kernel
theorem dX12_part_8 : decode cX12_part 8 = .ok (.lconst 0, 1) := by decide +kernel
theorem dX12_part_9 : decode cX12_part 9 = .ok (.lcmp, 1) := by decide +kernel
theorem dX12_part_10 : decode cX12_part 10 = .ok (.ifCond .eq 21, 3) := by decide +kernel
theorem dX12_part_13 : decode cX12_part 13 = .ok (.lload 5, 2) := by decide +kernel
theorem dX12_part_15 : decode cX12_part 15 = .ok (.lload 7, 2) := by decide +kernel
theorem dX12_part_17 : decode cX12_part 17 = .ok (.lrem, 1) := by decide +kernel
theorem dX12_part_18 : decode cX12_part 18 = .ok (.lstore 9, 2) := by decide +kernel
theorem dX12_part_20 : decode cX12_part 20 = .ok (.lload 7, 2) := by decide +kernel
theorem dX12_part_22 : decode cX12_part 22 = .ok (.lstore 5, 2) := by decide +kernel
theorem dX12_part_24 : decode cX12_part 24 = .ok (.lload 9, 2) := by decide +kernel
theorem dX12_part_26 : decode cX12_part 26 = .ok (.lstore 7, 2) := by decide +kernel
theorem dX12_part_28 : decode cX12_part 28 = .ok (.goto (-22), 3) := by decide +kernel
theorem dX12_part_31 : decode cX12_part 31 = .ok (.iload 4, 2) := by decide +kernel
theorem dX12_part_33 : decode cX12_part 33 = .ok (.ifCond .ne 7, 3) := by decide +kernel
theorem dX12_part_36 : decode cX12_part 36 = .ok (.lload_n 0, 1) := by decide +kernel
theorem dX12_part_37 : decode cX12_part 37 = .ok (.goto 4, 3) := by decide +kernel
theorem dX12_part_40 : decode cX12_part 40 = .ok (.lload_n 2, 1) := by decide +kernel
theorem dX12_part_41 : decode cX12_part 41 = .ok (.lload 5, 2) := by decide +kernel
theorem dX12_part_43 : decode cX12_part 43 = .ok (.ldiv, 1) := by decide +kernel
theorem dX12_part_44 : decode cX12_part 44 = .ok (.lreturn, 1) := by decide +kernel
theorem dX12_finds_0 : decode cX12_finds 0 = .ok (.aload_n 0, 1) := by decide +kernel
theorem dX12_finds_1 : decode cX12_finds 1 = .ok (.iload_n 1, 1) := by decide +kernel
theorem dX12_finds_2 : decode cX12_finds 2 = .ok (.putfield 80, 3) := by decide +kernel
theorem dX12_finds_5 : decode cX12_finds 5 = .ok (.bipush (-10), 2) := by decide +kernel
theorem dX12_finds_7 : decode cX12_finds 7 = .ok (.iload_n 1, 1) := by decide +kernel
theorem dX12_finds_8 : decode cX12_finds 8 = .ok (.isub, 1) := by decide +kernel
theorem dX12_finds_9 : decode cX12_finds 9 = .ok (.ireturn, 1) := by decide +kernel
theorem dX12_isSheet_0 : decode cX12_isSheet 0 = .ok (.iload_n 0, 1) := by decide +kernel
theorem dX12_isSheet_1 : decode cX12_isSheet 1 = .ok (.i2l, 1) := by decide +kernel
theorem dX12_isSheet_2 : decode cX12_isSheet 2 = .ok (.lconst 0, 1) := by decide +kernel
theorem dX12_isSheet_3 : decode cX12_isSheet 3 = .ok (.ldc2_w 83, 3) := by decide +kernel
theorem dX12_isSheet_6 : decode cX12_isSheet 6 = .ok (.invokestatic 76, 3) := by decide +kernel
theorem dX12_isSheet_9 : decode cX12_isSheet 9 = .ok (.ireturn, 1) := by decide +kernel
theorem dX12_sheet_0 : decode cX12_sheet 0 = .ok (.iload_n 1, 1) := by decide +kernel
theorem dX12_sheet_1 : decode cX12_sheet 1 = .ok (.invokestatic 85, 3) := by decide +kernel
theorem dX12_sheet_4 : decode cX12_sheet 4 = .ok (.ifCond .eq 21, 3) := by decide +kernel
theorem dX12_sheet_7 : decode cX12_sheet 7 = .ok (.iload_n 2, 1) := by decide +kernel
theorem dX12_sheet_8 : decode cX12_sheet 8 = .ok (.i2l, 1) := by decide +kernel
theorem dX12_sheet_9 : decode cX12_sheet 9 = .ok (.lconst 0, 1) := by decide +kernel
theorem dX12_sheet_10 : decode cX12_sheet 10 = .ok (.ldc2_w 89, 3) := by decide +kernel
theorem dX12_sheet_13 : decode cX12_sheet 13 = .ok (.invokestatic 76, 3) := by decide +kernel
theorem dX12_sheet_16 : decode cX12_sheet 16 = .ok (.ifCond .eq 9, 3) := by decide +kernel
theorem dX12_sheet_19 : decode cX12_sheet 19 = .ok (.iload_n 3, 1) := by decide +kernel
theorem dX12_sheet_20 : decode cX12_sheet 20 = .ok (.bipush 60, 2) := by decide +kernel
theorem dX12_sheet_22 : decode cX12_sheet 22 = .ok (.if_icmp .le 6, 3) := by decide +kernel
theorem dX12_sheet_25 : decode cX12_sheet 25 = .ok (.bipush (-2), 2) := by decide +kernel
theorem dX12_sheet_27 : decode cX12_sheet 27 = .ok (.ireturn, 1) := by decide +kernel
theorem dX12_sheet_28 : decode cX12_sheet 28 = .ok (.iload_n 3, 1) := by decide +kernel
theorem dX12_sheet_29 : decode cX12_sheet 29 = .ok (.ifCond .ge 9, 3) := by decide +kernel
theorem dX12_sheet_32 : decode cX12_sheet 32 = .ok (.aload_n 0, 1) := by decide +kernel
theorem dX12_sheet_33 : decode cX12_sheet 33 = .ok (.iconst 5, 1) := by decide +kernel
theorem dX12_sheet_34 : decode cX12_sheet 34 = .ok (.invokevirtual 91, 3) := by decide +kernel
theorem dX12_sheet_37 : decode cX12_sheet 37 = .ok (.ireturn, 1) := by decide +kernel
theorem dX12_sheet_38 : decode cX12_sheet 38 = .ok (.aload_n 0, 1) := by decide +kernel
theorem dX12_sheet_39 : decode cX12_sheet 39 = .ok (.getfield 7, 3) := by decide +kernel
theorem dX12_sheet_42 : decode cX12_sheet 42 = .ok (.iload_n 1, 1) := by decide +kernel
theorem dX12_sheet_43 : decode cX12_sheet 43 = .ok (.iload_n 2, 1) := by decide +kernel
theorem dX12_sheet_44 : decode cX12_sheet 44 = .ok (.iastore, 1) := by decide +kernel
theorem dX12_sheet_45 : decode cX12_sheet 45 = .ok (.aload_n 0, 1) := by decide +kernel
theorem dX12_sheet_46 : decode cX12_sheet 46 = .ok (.getfield 13, 3) := by decide +kernel
theorem dX12_sheet_49 : decode cX12_sheet 49 = .ok (.iload_n 1, 1) := by decide +kernel
theorem dX12_sheet_50 : decode cX12_sheet 50 = .ok (.iload_n 3, 1) := by decide +kernel
theorem dX12_sheet_51 : decode cX12_sheet 51 = .ok (.iastore, 1) := by decide +kernel
theorem dX12_sheet_52 : decode cX12_sheet 52 = .ok (.iconst 0, 1) := by decide +kernel
theorem dX12_sheet_53 : decode cX12_sheet 53 = .ok (.istore 4, 2) := by decide +kernel
theorem dX12_sheet_55 : decode cX12_sheet 55 = .ok (.iload 4, 2) := by decide +kernel
theorem dX12_sheet_57 : decode cX12_sheet 57 = .ok (.iload_n 3, 1) := by decide +kernel
theorem dX12_sheet_58 : decode cX12_sheet 58 = .ok (.if_icmp .ge 22, 3) := by decide +kernel
theorem dX12_sheet_61 : decode cX12_sheet 61 = .ok (.aload_n 0, 1) := by decide +kernel
theorem dX12_sheet_62 : decode cX12_sheet 62 = .ok (.getfield 16, 3) := by decide +kernel
theorem dX12_sheet_65 : decode cX12_sheet 65 = .ok (.bipush 60, 2) := by decide +kernel
theorem dX12_sheet_67 : decode cX12_sheet 67 = .ok (.iload_n 1, 1) := by decide +kernel
theorem dX12_sheet_68 : decode cX12_sheet 68 = .ok (.imul, 1) := by decide +kernel
theorem dX12_sheet_69 : decode cX12_sheet 69 = .ok (.iload 4, 2) := by decide +kernel
theorem dX12_sheet_71 : decode cX12_sheet 71 = .ok (.iadd, 1) := by decide +kernel
theorem dX12_sheet_72 : decode cX12_sheet 72 = .ok (.iconst 0, 1) := by decide +kernel
theorem dX12_sheet_73 : decode cX12_sheet 73 = .ok (.iastore, 1) := by decide +kernel
theorem dX12_sheet_74 : decode cX12_sheet 74 = .ok (.iinc 4 1, 3) := by decide +kernel
theorem dX12_sheet_77 : decode cX12_sheet 77 = .ok (.goto (-22), 3) := by decide +kernel
theorem dX12_sheet_80 : decode cX12_sheet 80 = .ok (.iload_n 3, 1) := by decide +kernel
theorem dX12_sheet_81 : decode cX12_sheet 81 = .ok (.ireturn, 1) := by decide +kernel
theorem dX12_lose_0 : decode cX12_lose 0 = .ok (.iload_n 1, 1) := by decide +kernel
theorem dX12_lose_1 : decode cX12_lose 1 = .ok (.invokestatic 85, 3) := by decide +kernel
theorem dX12_lose_4 : decode cX12_lose 4 = .ok (.ifCond .ne 6, 3) := by decide +kernel
theorem dX12_lose_7 : decode cX12_lose 7 = .ok (.bipush (-2), 2) := by decide +kernel
theorem dX12_lose_9 : decode cX12_lose 9 = .ok (.ireturn, 1) := by decide +kernel
theorem dX12_lose_10 : decode cX12_lose 10 = .ok (.aload_n 0, 1) := by decide +kernel
theorem dX12_lose_11 : decode cX12_lose 11 = .ok (.getfield 7, 3) := by decide +kernel
theorem dX12_lose_14 : decode cX12_lose 14 = .ok (.iload_n 1, 1) := by decide +kernel
theorem dX12_lose_15 : decode cX12_lose 15 = .ok (.iaload, 1) := by decide +kernel
theorem dX12_lose_16 : decode cX12_lose 16 = .ok (.ifCond .ge 9, 3) := by decide +kernel
theorem dX12_lose_19 : decode cX12_lose 19 = .ok (.aload_n 0, 1) := by decide +kernel
theorem dX12_lose_20 : decode cX12_lose 20 = .ok (.iconst 1, 1) := by decide +kernel
theorem dX12_lose_21 : decode cX12_lose 21 = .ok (.invokevirtual 91, 3) := by decide +kernel
theorem dX12_lose_24 : decode cX12_lose 24 = .ok (.ireturn, 1) := by decide +kernel
theorem dX12_lose_25 : decode cX12_lose 25 = .ok (.aload_n 0, 1) := by decide +kernel
theorem dX12_lose_26 : decode cX12_lose 26 = .ok (.getfield 7, 3) := by decide +kernel
theorem dX12_lose_29 : decode cX12_lose 29 = .ok (.iload_n 1, 1) := by decide +kernel
theorem dX12_lose_30 : decode cX12_lose 30 = .ok (.iconst (-1), 1) := by decide +kernel
theorem dX12_lose_31 : decode cX12_lose 31 = .ok (.iastore, 1) := by decide +kernel
theorem dX12_lose_32 : decode cX12_lose 32 = .ok (.aload_n 0, 1) := by decide +kernel
theorem dX12_lose_33 : decode cX12_lose 33 = .ok (.getfield 13, 3) := by decide +kernel
theorem dX12_lose_36 : decode cX12_lose 36 = .ok (.iload_n 1, 1) := by decide +kernel
theorem dX12_lose_37 : decode cX12_lose 37 = .ok (.iaload, 1) := by decide +kernel
theorem dX12_lose_38 : decode cX12_lose 38 = .ok (.ireturn, 1) := by decide +kernel
theorem dX12_lacks_0 : decode cX12_lacks 0 = .ok (.aload_n 0, 1) := by decide +kernel
theorem dX12_lacks_1 : decode cX12_lacks 1 = .ok (.getfield 7, 3) := by decide +kernel
theorem dX12_lacks_4 : decode cX12_lacks 4 = .ok (.iload_n 1, 1) := by decide +kernel
theorem dX12_lacks_5 : decode cX12_lacks 5 = .ok (.iaload, 1) := by decide +kernel
theorem dX12_lacks_6 : decode cX12_lacks 6 = .ok (.ifCond .ge 9, 3) := by decide +kernel
theorem dX12_lacks_9 : decode cX12_lacks 9 = .ok (.aload_n 0, 1) := by decide +kernel
theorem dX12_lacks_10 : decode cX12_lacks 10 = .ok (.iconst 1, 1) := by decide +kernel
theorem dX12_lacks_11 : decode cX12_lacks 11 = .ok (.invokevirtual 91, 3) := by decide +kernel
theorem dX12_lacks_14 : decode cX12_lacks 14 = .ok (.ireturn, 1) := by decide +kernel
theorem dX12_lacks_15 : decode cX12_lacks 15 = .ok (.aload_n 0, 1) := by decide +kernel
theorem dX12_lacks_16 : decode cX12_lacks 16 = .ok (.getfield 7, 3) := by decide +kernel
theorem dX12_lacks_19 : decode cX12_lacks 19 = .ok (.iload_n 1, 1) := by decide +kernel
theorem dX12_lacks_20 : decode cX12_lacks 20 = .ok (.iaload, 1) := by decide +kernel
theorem dX12_lacks_21 : decode cX12_lacks 21 = .ok (.iload_n 2, 1) := by decide +kernel
theorem dX12_lacks_22 : decode cX12_lacks 22 = .ok (.if_icmp .eq 9, 3) := by decide +kernel
theorem dX12_lacks_25 : decode cX12_lacks 25 = .ok (.aload_n 0, 1) := by decide +kernel
theorem dX12_lacks_26 : decode cX12_lacks 26 = .ok (.iconst 3, 1) := by decide +kernel
theorem dX12_lacks_27 : decode cX12_lacks 27 = .ok (.invokevirtual 91, 3) := by decide +kernel
theorem dX12_lacks_30 : decode cX12_lacks 30 = .ok (.ireturn, 1) := by decide +kernel
theorem dX12_lacks_31 : decode cX12_lacks 31 = .ok (.iload_n 3, 1) := by decide +kernel
theorem dX12_lacks_32 : decode cX12_lacks 32 = .ok (.i2l, 1) := by decide +kernel
theorem dX12_lacks_33 : decode cX12_lacks 33 = .ok (.lconst 0, 1) := by decide +kernel
theorem dX12_lacks_34 : decode cX12_lacks 34 = .ok (.aload_n 0, 1) := by decide +kernel
theorem dX12_lacks_35 : decode cX12_lacks 35 = .ok (.getfield 13, 3) := by decide +kernel
theorem dX12_lacks_38 : decode cX12_lacks 38 = .ok (.iload_n 1, 1) := by decide +kernel
theorem dX12_lacks_39 : decode cX12_lacks 39 = .ok (.iaload, 1) := by decide +kernel
theorem dX12_lacks_40 : decode cX12_lacks 40 = .ok (.iconst 1, 1) := by decide +kernel
theorem dX12_lacks_41 : decode cX12_lacks 41 = .ok (.isub, 1) := by decide +kernel
theorem dX12_lacks_42 : decode cX12_lacks 42 = .ok (.i2l, 1) := by decide +kernel
theorem dX12_lacks_43 : decode cX12_lacks 43 = .ok (.invokestatic 76, 3) := by decide +kernel
theorem dX12_lacks_46 : decode cX12_lacks 46 = .ok (.ifCond .eq 7, 3) := by decide +kernel
theorem dX12_lacks_49 : decode cX12_lacks 49 = .ok (.iconst 0, 1) := by decide +kernel
theorem dX12_lacks_50 : decode cX12_lacks 50 = .ok (.goto 8, 3) := by decide +kernel
theorem dX12_lacks_53 : decode cX12_lacks 53 = .ok (.aload_n 0, 1) := by decide +kernel
theorem dX12_lacks_54 : decode cX12_lacks 54 = .ok (.iconst 2, 1) := by decide +kernel
theorem dX12_lacks_55 : decode cX12_lacks 55 = .ok (.invokevirtual 91, 3) := by decide +kernel
theorem dX12_lacks_58 : decode cX12_lacks 58 = .ok (.ireturn, 1) := by decide +kernel
theorem dX12_cut_0 : decode cX12_cut 0 = .ok (.iload_n 0, 1) := by decide +kernel
theorem dX12_cut_1 : decode cX12_cut 1 = .ok (.ifCond .ne 8, 3) := by decide +kernel
theorem dX12_cut_4 : decode cX12_cut 4 = .ok (.iload_n 1, 1) := by decide +kernel
theorem dX12_cut_5 : decode cX12_cut 5 = .ok (.i2b, 1) := by decide +kernel
theorem dX12_cut_6 : decode cX12_cut 6 = .ok (.goto 14, 3) := by decide +kernel
theorem dX12_cut_9 : decode cX12_cut 9 = .ok (.iload_n 0, 1) := by decide +kernel
theorem dX12_cut_10 : decode cX12_cut 10 = .ok (.iconst 1, 1) := by decide +kernel
theorem dX12_cut_11 : decode cX12_cut 11 = .ok (.if_icmp .ne 8, 3) := by decide +kernel
theorem dX12_cut_14 : decode cX12_cut 14 = .ok (.iload_n 1, 1) := by decide +kernel
theorem dX12_cut_15 : decode cX12_cut 15 = .ok (.i2s, 1) := by decide +kernel
theorem dX12_cut_16 : decode cX12_cut 16 = .ok (.goto 4, 3) := by decide +kernel
theorem dX12_cut_19 : decode cX12_cut 19 = .ok (.iload_n 1, 1) := by decide +kernel
theorem dX12_cut_20 : decode cX12_cut 20 = .ok (.ireturn, 1) := by decide +kernel
theorem dX12_lay_0 : decode cX12_lay 0 = .ok (.iload_n 1, 1) := by decide +kernel
theorem dX12_lay_1 : decode cX12_lay 1 = .ok (.invokestatic 85, 3) := by decide +kernel
theorem dX12_lay_4 : decode cX12_lay 4 = .ok (.ifCond .eq 15, 3) := by decide +kernel
theorem dX12_lay_7 : decode cX12_lay 7 = .ok (.iload_n 2, 1) := by decide +kernel
theorem dX12_lay_8 : decode cX12_lay 8 = .ok (.i2l, 1) := by decide +kernel
theorem dX12_lay_9 : decode cX12_lay 9 = .ok (.lconst 0, 1) := by decide +kernel
theorem dX12_lay_10 : decode cX12_lay 10 = .ok (.ldc2_w 89, 3) := by decide +kernel
theorem dX12_lay_13 : decode cX12_lay 13 = .ok (.invokestatic 76, 3) := by decide +kernel
theorem dX12_lay_16 : decode cX12_lay 16 = .ok (.ifCond .ne 6, 3) := by decide +kernel
theorem dX12_lay_19 : decode cX12_lay 19 = .ok (.bipush (-2), 2) := by decide +kernel
theorem dX12_lay_21 : decode cX12_lay 21 = .ok (.ireturn, 1) := by decide +kernel
theorem dX12_lay_22 : decode cX12_lay 22 = .ok (.aload_n 0, 1) := by decide +kernel
theorem dX12_lay_23 : decode cX12_lay 23 = .ok (.iload_n 1, 1) := by decide +kernel
theorem dX12_lay_24 : decode cX12_lay 24 = .ok (.iload_n 2, 1) := by decide +kernel
theorem dX12_lay_25 : decode cX12_lay 25 = .ok (.iload_n 3, 1) := by decide +kernel
theorem dX12_lay_26 : decode cX12_lay 26 = .ok (.invokevirtual 95, 3) := by decide +kernel
theorem dX12_lay_29 : decode cX12_lay 29 = .ok (.istore 5, 2) := by decide +kernel
theorem dX12_lay_31 : decode cX12_lay 31 = .ok (.iload 5, 2) := by decide +kernel
theorem dX12_lay_33 : decode cX12_lay 33 = .ok (.ifCond .eq 6, 3) := by decide +kernel
theorem dX12_lay_36 : decode cX12_lay 36 = .ok (.iload 5, 2) := by decide +kernel
theorem dX12_lay_38 : decode cX12_lay 38 = .ok (.ireturn, 1) := by decide +kernel
theorem dX12_lay_39 : decode cX12_lay 39 = .ok (.aload_n 0, 1) := by decide +kernel
theorem dX12_lay_40 : decode cX12_lay 40 = .ok (.getfield 16, 3) := by decide +kernel
theorem dX12_lay_43 : decode cX12_lay 43 = .ok (.bipush 60, 2) := by decide +kernel
theorem dX12_lay_45 : decode cX12_lay 45 = .ok (.iload_n 1, 1) := by decide +kernel
theorem dX12_lay_46 : decode cX12_lay 46 = .ok (.imul, 1) := by decide +kernel
theorem dX12_lay_47 : decode cX12_lay 47 = .ok (.iload_n 3, 1) := by decide +kernel
theorem dX12_lay_48 : decode cX12_lay 48 = .ok (.iadd, 1) := by decide +kernel
theorem dX12_lay_49 : decode cX12_lay 49 = .ok (.iload_n 2, 1) := by decide +kernel
theorem dX12_lay_50 : decode cX12_lay 50 = .ok (.iload 4, 2) := by decide +kernel
theorem dX12_lay_52 : decode cX12_lay 52 = .ok (.invokestatic 99, 3) := by decide +kernel
theorem dX12_lay_55 : decode cX12_lay 55 = .ok (.iastore, 1) := by decide +kernel
theorem dX12_lay_56 : decode cX12_lay 56 = .ok (.iconst 1, 1) := by decide +kernel
theorem dX12_lay_57 : decode cX12_lay 57 = .ok (.ireturn, 1) := by decide +kernel
theorem dX12_get_0 : decode cX12_get 0 = .ok (.iload_n 1, 1) := by decide +kernel
theorem dX12_get_1 : decode cX12_get 1 = .ok (.invokestatic 85, 3) := by decide +kernel
theorem dX12_get_4 : decode cX12_get 4 = .ok (.ifCond .eq 25, 3) := by decide +kernel
theorem dX12_get_7 : decode cX12_get 7 = .ok (.iload_n 2, 1) := by decide +kernel
theorem dX12_get_8 : decode cX12_get 8 = .ok (.i2l, 1) := by decide +kernel
theorem dX12_get_9 : decode cX12_get 9 = .ok (.lconst 0, 1) := by decide +kernel
theorem dX12_get_10 : decode cX12_get 10 = .ok (.ldc2_w 89, 3) := by decide +kernel
theorem dX12_get_13 : decode cX12_get 13 = .ok (.invokestatic 76, 3) := by decide +kernel
theorem dX12_get_16 : decode cX12_get 16 = .ok (.ifCond .eq 13, 3) := by decide +kernel
theorem dX12_get_19 : decode cX12_get 19 = .ok (.aload_n 0, 1) := by decide +kernel
theorem dX12_get_20 : decode cX12_get 20 = .ok (.iload_n 1, 1) := by decide +kernel
theorem dX12_get_21 : decode cX12_get 21 = .ok (.iload_n 2, 1) := by decide +kernel
theorem dX12_get_22 : decode cX12_get 22 = .ok (.iload_n 3, 1) := by decide +kernel
theorem dX12_get_23 : decode cX12_get 23 = .ok (.invokevirtual 95, 3) := by decide +kernel
theorem dX12_get_26 : decode cX12_get 26 = .ok (.ifCond .eq 6, 3) := by decide +kernel
theorem dX12_get_29 : decode cX12_get 29 = .ok (.ldc 103, 2) := by decide +kernel
theorem dX12_get_31 : decode cX12_get 31 = .ok (.ireturn, 1) := by decide +kernel
theorem dX12_get_32 : decode cX12_get 32 = .ok (.aload_n 0, 1) := by decide +kernel
theorem dX12_get_33 : decode cX12_get 33 = .ok (.getfield 16, 3) := by decide +kernel
theorem dX12_get_36 : decode cX12_get 36 = .ok (.bipush 60, 2) := by decide +kernel
theorem dX12_get_38 : decode cX12_get 38 = .ok (.iload_n 1, 1) := by decide +kernel
theorem dX12_get_39 : decode cX12_get 39 = .ok (.imul, 1) := by decide +kernel
theorem dX12_get_40 : decode cX12_get 40 = .ok (.iload_n 3, 1) := by decide +kernel
theorem dX12_get_41 : decode cX12_get 41 = .ok (.iadd, 1) := by decide +kernel
theorem dX12_get_42 : decode cX12_get 42 = .ok (.iaload, 1) := by decide +kernel
theorem dX12_get_43 : decode cX12_get 43 = .ok (.ireturn, 1) := by decide +kernel
theorem dX12_copy_0 : decode cX12_copy 0 = .ok (.iload_n 1, 1) := by decide +kernel
theorem dX12_copy_1 : decode cX12_copy 1 = .ok (.invokestatic 85, 3) := by decide +kernel
theorem dX12_copy_4 : decode cX12_copy 4 = .ok (.ifCond .eq 10, 3) := by decide +kernel
theorem dX12_copy_7 : decode cX12_copy 7 = .ok (.iload_n 3, 1) := by decide +kernel
theorem dX12_copy_8 : decode cX12_copy 8 = .ok (.invokestatic 85, 3) := by decide +kernel
theorem dX12_copy_11 : decode cX12_copy 11 = .ok (.ifCond .ne 6, 3) := by decide +kernel
theorem dX12_copy_14 : decode cX12_copy 14 = .ok (.bipush (-2), 2) := by decide +kernel
theorem dX12_copy_16 : decode cX12_copy 16 = .ok (.ireturn, 1) := by decide +kernel
theorem dX12_copy_17 : decode cX12_copy 17 = .ok (.aload_n 0, 1) := by decide +kernel
theorem dX12_copy_18 : decode cX12_copy 18 = .ok (.getfield 7, 3) := by decide +kernel
theorem dX12_copy_21 : decode cX12_copy 21 = .ok (.iload_n 1, 1) := by decide +kernel
theorem dX12_copy_22 : decode cX12_copy 22 = .ok (.iaload, 1) := by decide +kernel
theorem dX12_copy_23 : decode cX12_copy 23 = .ok (.ifCond .lt 12, 3) := by decide +kernel
theorem dX12_copy_26 : decode cX12_copy 26 = .ok (.aload_n 0, 1) := by decide +kernel
theorem dX12_copy_27 : decode cX12_copy 27 = .ok (.getfield 7, 3) := by decide +kernel
theorem dX12_copy_30 : decode cX12_copy 30 = .ok (.iload_n 3, 1) := by decide +kernel
theorem dX12_copy_31 : decode cX12_copy 31 = .ok (.iaload, 1) := by decide +kernel
theorem dX12_copy_32 : decode cX12_copy 32 = .ok (.ifCond .ge 9, 3) := by decide +kernel
theorem dX12_copy_35 : decode cX12_copy 35 = .ok (.aload_n 0, 1) := by decide +kernel
theorem dX12_copy_36 : decode cX12_copy 36 = .ok (.iconst 1, 1) := by decide +kernel
theorem dX12_copy_37 : decode cX12_copy 37 = .ok (.invokevirtual 91, 3) := by decide +kernel
theorem dX12_copy_40 : decode cX12_copy 40 = .ok (.ireturn, 1) := by decide +kernel
theorem dX12_copy_41 : decode cX12_copy 41 = .ok (.aload_n 0, 1) := by decide +kernel
theorem dX12_copy_42 : decode cX12_copy 42 = .ok (.getfield 7, 3) := by decide +kernel
theorem dX12_copy_45 : decode cX12_copy 45 = .ok (.iload_n 1, 1) := by decide +kernel
theorem dX12_copy_46 : decode cX12_copy 46 = .ok (.iaload, 1) := by decide +kernel
theorem dX12_copy_47 : decode cX12_copy 47 = .ok (.aload_n 0, 1) := by decide +kernel
theorem dX12_copy_48 : decode cX12_copy 48 = .ok (.getfield 7, 3) := by decide +kernel
theorem dX12_copy_51 : decode cX12_copy 51 = .ok (.iload_n 3, 1) := by decide +kernel
theorem dX12_copy_52 : decode cX12_copy 52 = .ok (.iaload, 1) := by decide +kernel
theorem dX12_copy_53 : decode cX12_copy 53 = .ok (.if_icmp .eq 9, 3) := by decide +kernel
theorem dX12_copy_56 : decode cX12_copy 56 = .ok (.aload_n 0, 1) := by decide +kernel
theorem dX12_copy_57 : decode cX12_copy 57 = .ok (.iconst 4, 1) := by decide +kernel
theorem dX12_copy_58 : decode cX12_copy 58 = .ok (.invokevirtual 91, 3) := by decide +kernel
theorem dX12_copy_61 : decode cX12_copy 61 = .ok (.ireturn, 1) := by decide +kernel
theorem dX12_copy_62 : decode cX12_copy 62 = .ok (.iload_n 2, 1) := by decide +kernel
theorem dX12_copy_63 : decode cX12_copy 63 = .ok (.ifCond .lt 48, 3) := by decide +kernel
theorem dX12_copy_66 : decode cX12_copy 66 = .ok (.iload 4, 2) := by decide +kernel
theorem dX12_copy_68 : decode cX12_copy 68 = .ok (.ifCond .lt 43, 3) := by decide +kernel
theorem dX12_copy_71 : decode cX12_copy 71 = .ok (.iload 5, 2) := by decide +kernel
theorem dX12_copy_73 : decode cX12_copy 73 = .ok (.ifCond .lt 38, 3) := by decide +kernel
theorem dX12_copy_76 : decode cX12_copy 76 = .ok (.iload_n 2, 1) := by decide +kernel
theorem dX12_copy_77 : decode cX12_copy 77 = .ok (.i2l, 1) := by decide +kernel
theorem dX12_copy_78 : decode cX12_copy 78 = .ok (.iload 5, 2) := by decide +kernel
theorem dX12_copy_80 : decode cX12_copy 80 = .ok (.i2l, 1) := by decide +kernel
theorem dX12_copy_81 : decode cX12_copy 81 = .ok (.ladd, 1) := by decide +kernel
theorem dX12_copy_82 : decode cX12_copy 82 = .ok (.aload_n 0, 1) := by decide +kernel
theorem dX12_copy_83 : decode cX12_copy 83 = .ok (.getfield 13, 3) := by decide +kernel
theorem dX12_copy_86 : decode cX12_copy 86 = .ok (.iload_n 1, 1) := by decide +kernel
theorem dX12_copy_87 : decode cX12_copy 87 = .ok (.iaload, 1) := by decide +kernel
theorem dX12_copy_88 : decode cX12_copy 88 = .ok (.i2l, 1) := by decide +kernel
theorem dX12_copy_89 : decode cX12_copy 89 = .ok (.lcmp, 1) := by decide +kernel
theorem dX12_copy_90 : decode cX12_copy 90 = .ok (.ifCond .gt 21, 3) := by decide +kernel
theorem dX12_copy_93 : decode cX12_copy 93 = .ok (.iload 4, 2) := by decide +kernel
theorem dX12_copy_95 : decode cX12_copy 95 = .ok (.i2l, 1) := by decide +kernel
theorem dX12_copy_96 : decode cX12_copy 96 = .ok (.iload 5, 2) := by decide +kernel
theorem dX12_copy_98 : decode cX12_copy 98 = .ok (.i2l, 1) := by decide +kernel
theorem dX12_copy_99 : decode cX12_copy 99 = .ok (.ladd, 1) := by decide +kernel
theorem dX12_copy_100 : decode cX12_copy 100 = .ok (.aload_n 0, 1) := by decide +kernel
theorem dX12_copy_101 : decode cX12_copy 101 = .ok (.getfield 13, 3) := by decide +kernel
theorem dX12_copy_104 : decode cX12_copy 104 = .ok (.iload_n 3, 1) := by decide +kernel
theorem dX12_copy_105 : decode cX12_copy 105 = .ok (.iaload, 1) := by decide +kernel
theorem dX12_copy_106 : decode cX12_copy 106 = .ok (.i2l, 1) := by decide +kernel
theorem dX12_copy_107 : decode cX12_copy 107 = .ok (.lcmp, 1) := by decide +kernel
theorem dX12_copy_108 : decode cX12_copy 108 = .ok (.ifCond .le 9, 3) := by decide +kernel
theorem dX12_copy_111 : decode cX12_copy 111 = .ok (.aload_n 0, 1) := by decide +kernel
theorem dX12_copy_112 : decode cX12_copy 112 = .ok (.iconst 2, 1) := by decide +kernel
theorem dX12_copy_113 : decode cX12_copy 113 = .ok (.invokevirtual 91, 3) := by decide +kernel
theorem dX12_copy_116 : decode cX12_copy 116 = .ok (.ireturn, 1) := by decide +kernel
theorem dX12_copy_117 : decode cX12_copy 117 = .ok (.iconst 0, 1) := by decide +kernel
theorem dX12_copy_118 : decode cX12_copy 118 = .ok (.istore 6, 2) := by decide +kernel
theorem dX12_copy_120 : decode cX12_copy 120 = .ok (.iload 6, 2) := by decide +kernel
theorem dX12_copy_122 : decode cX12_copy 122 = .ok (.iload 5, 2) := by decide +kernel
theorem dX12_copy_124 : decode cX12_copy 124 = .ok (.if_icmp .ge 30, 3) := by decide +kernel
theorem dX12_copy_127 : decode cX12_copy 127 = .ok (.aload_n 0, 1) := by decide +kernel
theorem dX12_copy_128 : decode cX12_copy 128 = .ok (.getfield 19, 3) := by decide +kernel
theorem dX12_copy_131 : decode cX12_copy 131 = .ok (.iload 6, 2) := by decide +kernel
theorem dX12_copy_133 : decode cX12_copy 133 = .ok (.aload_n 0, 1) := by decide +kernel
theorem dX12_copy_134 : decode cX12_copy 134 = .ok (.getfield 16, 3) := by decide +kernel
theorem dX12_copy_137 : decode cX12_copy 137 = .ok (.bipush 60, 2) := by decide +kernel
theorem dX12_copy_139 : decode cX12_copy 139 = .ok (.iload_n 1, 1) := by decide +kernel
theorem dX12_copy_140 : decode cX12_copy 140 = .ok (.imul, 1) := by decide +kernel
theorem dX12_copy_141 : decode cX12_copy 141 = .ok (.iload_n 2, 1) := by decide +kernel
theorem dX12_copy_142 : decode cX12_copy 142 = .ok (.iadd, 1) := by decide +kernel
theorem dX12_copy_143 : decode cX12_copy 143 = .ok (.iload 6, 2) := by decide +kernel
theorem dX12_copy_145 : decode cX12_copy 145 = .ok (.iadd, 1) := by decide +kernel
theorem dX12_copy_146 : decode cX12_copy 146 = .ok (.iaload, 1) := by decide +kernel
theorem dX12_copy_147 : decode cX12_copy 147 = .ok (.iastore, 1) := by decide +kernel
theorem dX12_copy_148 : decode cX12_copy 148 = .ok (.iinc 6 1, 3) := by decide +kernel
theorem dX12_copy_151 : decode cX12_copy 151 = .ok (.goto (-31), 3) := by decide +kernel
theorem dX12_copy_154 : decode cX12_copy 154 = .ok (.iconst 0, 1) := by decide +kernel
theorem dX12_copy_155 : decode cX12_copy 155 = .ok (.istore 6, 2) := by decide +kernel
theorem dX12_copy_157 : decode cX12_copy 157 = .ok (.iload 6, 2) := by decide +kernel
theorem dX12_copy_159 : decode cX12_copy 159 = .ok (.iload 5, 2) := by decide +kernel
theorem dX12_copy_161 : decode cX12_copy 161 = .ok (.if_icmp .ge 31, 3) := by decide +kernel
theorem dX12_copy_164 : decode cX12_copy 164 = .ok (.aload_n 0, 1) := by decide +kernel
theorem dX12_copy_165 : decode cX12_copy 165 = .ok (.getfield 16, 3) := by decide +kernel
theorem dX12_copy_168 : decode cX12_copy 168 = .ok (.bipush 60, 2) := by decide +kernel
theorem dX12_copy_170 : decode cX12_copy 170 = .ok (.iload_n 3, 1) := by decide +kernel
theorem dX12_copy_171 : decode cX12_copy 171 = .ok (.imul, 1) := by decide +kernel
theorem dX12_copy_172 : decode cX12_copy 172 = .ok (.iload 4, 2) := by decide +kernel
theorem dX12_copy_174 : decode cX12_copy 174 = .ok (.iadd, 1) := by decide +kernel
theorem dX12_copy_175 : decode cX12_copy 175 = .ok (.iload 6, 2) := by decide +kernel
theorem dX12_copy_177 : decode cX12_copy 177 = .ok (.iadd, 1) := by decide +kernel
theorem dX12_copy_178 : decode cX12_copy 178 = .ok (.aload_n 0, 1) := by decide +kernel
theorem dX12_copy_179 : decode cX12_copy 179 = .ok (.getfield 19, 3) := by decide +kernel
theorem dX12_copy_182 : decode cX12_copy 182 = .ok (.iload 6, 2) := by decide +kernel
theorem dX12_copy_184 : decode cX12_copy 184 = .ok (.iaload, 1) := by decide +kernel
theorem dX12_copy_185 : decode cX12_copy 185 = .ok (.iastore, 1) := by decide +kernel
theorem dX12_copy_186 : decode cX12_copy 186 = .ok (.iinc 6 1, 3) := by decide +kernel
theorem dX12_copy_189 : decode cX12_copy 189 = .ok (.goto (-32), 3) := by decide +kernel
theorem dX12_copy_192 : decode cX12_copy 192 = .ok (.iconst 1, 1) := by decide +kernel
theorem dX12_copy_193 : decode cX12_copy 193 = .ok (.ireturn, 1) := by decide +kernel
theorem dX12_isText_0 : decode cX12_isText 0 = .ok (.iload_n 0, 1) := by decide +kernel
theorem dX12_isText_1 : decode cX12_isText 1 = .ok (.i2l, 1) := by decide +kernel
theorem dX12_isText_2 : decode cX12_isText 2 = .ok (.lconst 0, 1) := by decide +kernel
theorem dX12_isText_3 : decode cX12_isText 3 = .ok (.ldc2_w 89, 3) := by decide +kernel
theorem dX12_isText_6 : decode cX12_isText 6 = .ok (.invokestatic 76, 3) := by decide +kernel
theorem dX12_isText_9 : decode cX12_isText 9 = .ok (.ireturn, 1) := by decide +kernel
theorem dX12_type_0 : decode cX12_type 0 = .ok (.iload_n 1, 1) := by decide +kernel
theorem dX12_type_1 : decode cX12_type 1 = .ok (.invokestatic 104, 3) := by decide +kernel
theorem dX12_type_4 : decode cX12_type 4 = .ok (.ifCond .eq 15, 3) := by decide +kernel
theorem dX12_type_7 : decode cX12_type 7 = .ok (.iload_n 2, 1) := by decide +kernel
theorem dX12_type_8 : decode cX12_type 8 = .ok (.i2l, 1) := by decide +kernel
theorem dX12_type_9 : decode cX12_type 9 = .ok (.lconst 0, 1) := by decide +kernel
theorem dX12_type_10 : decode cX12_type 10 = .ok (.ldc2_w 107, 3) := by decide +kernel
theorem dX12_type_13 : decode cX12_type 13 = .ok (.invokestatic 76, 3) := by decide +kernel
theorem dX12_type_16 : decode cX12_type 16 = .ok (.ifCond .ne 6, 3) := by decide +kernel
theorem dX12_type_19 : decode cX12_type 19 = .ok (.bipush (-2), 2) := by decide +kernel
theorem dX12_type_21 : decode cX12_type 21 = .ok (.ireturn, 1) := by decide +kernel
theorem dX12_type_22 : decode cX12_type 22 = .ok (.aload_n 0, 1) := by decide +kernel
theorem dX12_type_23 : decode cX12_type 23 = .ok (.getfield 25, 3) := by decide +kernel
theorem dX12_type_26 : decode cX12_type 26 = .ok (.iload_n 1, 1) := by decide +kernel
theorem dX12_type_27 : decode cX12_type 27 = .ok (.iaload, 1) := by decide +kernel
theorem dX12_type_28 : decode cX12_type 28 = .ok (.iload_n 1, 1) := by decide +kernel
theorem dX12_type_29 : decode cX12_type 29 = .ok (.ifCond .ne 8, 3) := by decide +kernel
theorem dX12_type_32 : decode cX12_type 32 = .ok (.bipush 41, 2) := by decide +kernel
theorem dX12_type_34 : decode cX12_type 34 = .ok (.goto 15, 3) := by decide +kernel
theorem dX12_type_37 : decode cX12_type 37 = .ok (.iload_n 1, 1) := by decide +kernel
theorem dX12_type_38 : decode cX12_type 38 = .ok (.iconst 1, 1) := by decide +kernel
theorem dX12_type_39 : decode cX12_type 39 = .ok (.if_icmp .ne 8, 3) := by decide +kernel
theorem dX12_type_42 : decode cX12_type 42 = .ok (.bipush 39, 2) := by decide +kernel
theorem dX12_type_44 : decode cX12_type 44 = .ok (.goto 5, 3) := by decide +kernel
theorem dX12_type_47 : decode cX12_type 47 = .ok (.bipush 20, 2) := by decide +kernel
theorem dX12_type_49 : decode cX12_type 49 = .ok (.if_icmp .ne 6, 3) := by decide +kernel
theorem dX12_type_52 : decode cX12_type 52 = .ok (.bipush (-4), 2) := by decide +kernel
theorem dX12_type_54 : decode cX12_type 54 = .ok (.ireturn, 1) := by decide +kernel
theorem dX12_type_55 : decode cX12_type 55 = .ok (.aload_n 0, 1) := by decide +kernel
theorem dX12_type_56 : decode cX12_type 56 = .ok (.getfield 22, 3) := by decide +kernel
theorem dX12_type_59 : decode cX12_type 59 = .ok (.bipush 42, 2) := by decide +kernel
theorem dX12_type_61 : decode cX12_type 61 = .ok (.iload_n 1, 1) := by decide +kernel
theorem dX12_type_62 : decode cX12_type 62 = .ok (.imul, 1) := by decide +kernel
theorem dX12_type_63 : decode cX12_type 63 = .ok (.aload_n 0, 1) := by decide +kernel
theorem dX12_type_64 : decode cX12_type 64 = .ok (.getfield 25, 3) := by decide +kernel
theorem dX12_type_67 : decode cX12_type 67 = .ok (.iload_n 1, 1) := by decide +kernel
theorem dX12_type_68 : decode cX12_type 68 = .ok (.iaload, 1) := by decide +kernel
theorem dX12_type_69 : decode cX12_type 69 = .ok (.iadd, 1) := by decide +kernel
theorem dX12_type_70 : decode cX12_type 70 = .ok (.iload_n 2, 1) := by decide +kernel
theorem dX12_type_71 : decode cX12_type 71 = .ok (.iastore, 1) := by decide +kernel
theorem dX12_type_72 : decode cX12_type 72 = .ok (.aload_n 0, 1) := by decide +kernel
theorem dX12_type_73 : decode cX12_type 73 = .ok (.getfield 25, 3) := by decide +kernel
theorem dX12_type_76 : decode cX12_type 76 = .ok (.iload_n 1, 1) := by decide +kernel
theorem dX12_type_77 : decode cX12_type 77 = .ok (.dup2, 1) := by decide +kernel
theorem dX12_type_78 : decode cX12_type 78 = .ok (.iaload, 1) := by decide +kernel
theorem dX12_type_79 : decode cX12_type 79 = .ok (.iconst 1, 1) := by decide +kernel
theorem dX12_type_80 : decode cX12_type 80 = .ok (.iadd, 1) := by decide +kernel
theorem dX12_type_81 : decode cX12_type 81 = .ok (.iastore, 1) := by decide +kernel
theorem dX12_type_82 : decode cX12_type 82 = .ok (.aload_n 0, 1) := by decide +kernel
theorem dX12_type_83 : decode cX12_type 83 = .ok (.getfield 25, 3) := by decide +kernel
theorem dX12_type_86 : decode cX12_type 86 = .ok (.iload_n 1, 1) := by decide +kernel
theorem dX12_type_87 : decode cX12_type 87 = .ok (.iaload, 1) := by decide +kernel
theorem dX12_type_88 : decode cX12_type 88 = .ok (.ireturn, 1) := by decide +kernel
theorem dX12_wipe_0 : decode cX12_wipe 0 = .ok (.iload_n 1, 1) := by decide +kernel
theorem dX12_wipe_1 : decode cX12_wipe 1 = .ok (.invokestatic 104, 3) := by decide +kernel
theorem dX12_wipe_4 : decode cX12_wipe 4 = .ok (.ifCond .ne 6, 3) := by decide +kernel
theorem dX12_wipe_7 : decode cX12_wipe 7 = .ok (.bipush (-2), 2) := by decide +kernel
theorem dX12_wipe_9 : decode cX12_wipe 9 = .ok (.ireturn, 1) := by decide +kernel
theorem dX12_wipe_10 : decode cX12_wipe 10 = .ok (.aload_n 0, 1) := by decide +kernel
theorem dX12_wipe_11 : decode cX12_wipe 11 = .ok (.getfield 25, 3) := by decide +kernel
theorem dX12_wipe_14 : decode cX12_wipe 14 = .ok (.iload_n 1, 1) := by decide +kernel
theorem dX12_wipe_15 : decode cX12_wipe 15 = .ok (.iaload, 1) := by decide +kernel
theorem dX12_wipe_16 : decode cX12_wipe 16 = .ok (.istore_n 2, 1) := by decide +kernel
theorem dX12_wipe_17 : decode cX12_wipe 17 = .ok (.aload_n 0, 1) := by decide +kernel
theorem dX12_wipe_18 : decode cX12_wipe 18 = .ok (.getfield 25, 3) := by decide +kernel
theorem dX12_wipe_21 : decode cX12_wipe 21 = .ok (.iload_n 1, 1) := by decide +kernel
theorem dX12_wipe_22 : decode cX12_wipe 22 = .ok (.iconst 0, 1) := by decide +kernel
theorem dX12_wipe_23 : decode cX12_wipe 23 = .ok (.iastore, 1) := by decide +kernel
theorem dX12_wipe_24 : decode cX12_wipe 24 = .ok (.iload_n 2, 1) := by decide +kernel
theorem dX12_wipe_25 : decode cX12_wipe 25 = .ok (.ireturn, 1) := by decide +kernel
theorem dX12_undo_0 : decode cX12_undo 0 = .ok (.iload_n 1, 1) := by decide +kernel
theorem dX12_undo_1 : decode cX12_undo 1 = .ok (.invokestatic 104, 3) := by decide +kernel
theorem dX12_undo_4 : decode cX12_undo 4 = .ok (.ifCond .ne 6, 3) := by decide +kernel
theorem dX12_undo_7 : decode cX12_undo 7 = .ok (.bipush (-2), 2) := by decide +kernel
theorem dX12_undo_9 : decode cX12_undo 9 = .ok (.ireturn, 1) := by decide +kernel
theorem dX12_undo_10 : decode cX12_undo 10 = .ok (.aload_n 0, 1) := by decide +kernel
theorem dX12_undo_11 : decode cX12_undo 11 = .ok (.getfield 25, 3) := by decide +kernel
theorem dX12_undo_14 : decode cX12_undo 14 = .ok (.iload_n 1, 1) := by decide +kernel
theorem dX12_undo_15 : decode cX12_undo 15 = .ok (.iaload, 1) := by decide +kernel
theorem dX12_undo_16 : decode cX12_undo 16 = .ok (.ifCond .ne 6, 3) := by decide +kernel
theorem dX12_undo_19 : decode cX12_undo 19 = .ok (.bipush (-3), 2) := by decide +kernel
theorem dX12_undo_21 : decode cX12_undo 21 = .ok (.ireturn, 1) := by decide +kernel
theorem dX12_undo_22 : decode cX12_undo 22 = .ok (.aload_n 0, 1) := by decide +kernel
theorem dX12_undo_23 : decode cX12_undo 23 = .ok (.getfield 25, 3) := by decide +kernel
theorem dX12_undo_26 : decode cX12_undo 26 = .ok (.iload_n 1, 1) := by decide +kernel
theorem dX12_undo_27 : decode cX12_undo 27 = .ok (.dup2, 1) := by decide +kernel
theorem dX12_undo_28 : decode cX12_undo 28 = .ok (.iaload, 1) := by decide +kernel
theorem dX12_undo_29 : decode cX12_undo 29 = .ok (.iconst 1, 1) := by decide +kernel
theorem dX12_undo_30 : decode cX12_undo 30 = .ok (.isub, 1) := by decide +kernel
theorem dX12_undo_31 : decode cX12_undo 31 = .ok (.iastore, 1) := by decide +kernel
theorem dX12_undo_32 : decode cX12_undo 32 = .ok (.aload_n 0, 1) := by decide +kernel
theorem dX12_undo_33 : decode cX12_undo 33 = .ok (.getfield 25, 3) := by decide +kernel
theorem dX12_undo_36 : decode cX12_undo 36 = .ok (.iload_n 1, 1) := by decide +kernel
theorem dX12_undo_37 : decode cX12_undo 37 = .ok (.iaload, 1) := by decide +kernel
theorem dX12_undo_38 : decode cX12_undo 38 = .ok (.ireturn, 1) := by decide +kernel
theorem dX12_torn_0 : decode cX12_torn 0 = .ok (.aload_n 0, 1) := by decide +kernel
theorem dX12_torn_1 : decode cX12_torn 1 = .ok (.iconst 0, 1) := by decide +kernel
theorem dX12_torn_2 : decode cX12_torn 2 = .ok (.putfield 109, 3) := by decide +kernel
theorem dX12_torn_5 : decode cX12_torn 5 = .ok (.aload_n 0, 1) := by decide +kernel
theorem dX12_torn_6 : decode cX12_torn 6 = .ok (.iconst 0, 1) := by decide +kernel
theorem dX12_torn_7 : decode cX12_torn 7 = .ok (.putfield 112, 3) := by decide +kernel
theorem dX12_torn_10 : decode cX12_torn 10 = .ok (.iload_n 1, 1) := by decide +kernel
theorem dX12_torn_11 : decode cX12_torn 11 = .ok (.ireturn, 1) := by decide +kernel
theorem dX12_readsValley_0 : decode cX12_readsValley 0 = .ok (.aload_n 0, 1) := by decide +kernel
theorem dX12_readsValley_1 : decode cX12_readsValley 1 = .ok (.iconst 0, 1) := by decide +kernel
theorem dX12_readsValley_2 : decode cX12_readsValley 2 = .ok (.putfield 109, 3) := by decide +kernel
theorem dX12_readsValley_5 : decode cX12_readsValley 5 = .ok (.aload_n 0, 1) := by decide +kernel
theorem dX12_readsValley_6 : decode cX12_readsValley 6 = .ok (.iconst 0, 1) := by decide +kernel
theorem dX12_readsValley_7 : decode cX12_readsValley 7 = .ok (.putfield 112, 3) := by decide +kernel
theorem dX12_readsValley_10 : decode cX12_readsValley 10 = .ok (.aload_n 0, 1) := by decide +kernel
theorem dX12_readsValley_11 : decode cX12_readsValley 11 = .ok (.getfield 25, 3) := by decide +kernel
theorem dX12_readsValley_14 : decode cX12_readsValley 14 = .ok (.iconst 0, 1) := by decide +kernel
theorem dX12_readsValley_15 : decode cX12_readsValley 15 = .ok (.iaload, 1) := by decide +kernel
theorem dX12_readsValley_16 : decode cX12_readsValley 16 = .ok (.istore_n 1, 1) := by decide +kernel
theorem dX12_readsValley_17 : decode cX12_readsValley 17 = .ok (.iconst 0, 1) := by decide +kernel
theorem dX12_readsValley_18 : decode cX12_readsValley 18 = .ok (.istore_n 2, 1) := by decide +kernel
theorem dX12_readsValley_19 : decode cX12_readsValley 19 = .ok (.iconst 0, 1) := by decide +kernel
theorem dX12_readsValley_20 : decode cX12_readsValley 20 = .ok (.istore_n 3, 1) := by decide +kernel
theorem dX12_readsValley_21 : decode cX12_readsValley 21 = .ok (.iconst 0, 1) := by decide +kernel
theorem dX12_readsValley_22 : decode cX12_readsValley 22 = .ok (.istore 4, 2) := by decide +kernel
theorem dX12_readsValley_24 : decode cX12_readsValley 24 = .ok (.iload 4, 2) := by decide +kernel
theorem dX12_readsValley_26 : decode cX12_readsValley 26 = .ok (.iload_n 1, 1) := by decide +kernel
theorem dX12_readsValley_27 : decode cX12_readsValley 27 = .ok (.if_icmp .ge 145, 3) := by decide +kernel
theorem dX12_readsValley_30 : decode cX12_readsValley 30 = .ok (.aload_n 0, 1) := by decide +kernel
theorem dX12_readsValley_31 : decode cX12_readsValley 31 = .ok (.getfield 22, 3) := by decide +kernel
theorem dX12_readsValley_34 : decode cX12_readsValley 34 = .ok (.iload 4, 2) := by decide +kernel
theorem dX12_readsValley_36 : decode cX12_readsValley 36 = .ok (.iaload, 1) := by decide +kernel
theorem dX12_readsValley_37 : decode cX12_readsValley 37 = .ok (.istore 5, 2) := by decide +kernel
theorem dX12_readsValley_39 : decode cX12_readsValley 39 = .ok (.iload 5, 2) := by decide +kernel
theorem dX12_readsValley_41 : decode cX12_readsValley 41 = .ok (.bipush 59, 2) := by decide +kernel
theorem dX12_readsValley_43 : decode cX12_readsValley 43 = .ok (.if_icmp .ne 42, 3) := by decide +kernel
theorem dX12_readsValley_46 : decode cX12_readsValley 46 = .ok (.iload_n 3, 1) := by decide +kernel
theorem dX12_readsValley_47 : decode cX12_readsValley 47 = .ok (.ifCond .eq 18, 3) := by decide +kernel
theorem dX12_readsValley_50 : decode cX12_readsValley 50 = .ok (.aload_n 0, 1) := by decide +kernel
theorem dX12_readsValley_51 : decode cX12_readsValley 51 = .ok (.getfield 112, 3) := by decide +kernel
theorem dX12_readsValley_54 : decode cX12_readsValley 54 = .ok (.ifCond .le 18, 3) := by decide +kernel
theorem dX12_readsValley_57 : decode cX12_readsValley 57 = .ok (.iload_n 3, 1) := by decide +kernel
theorem dX12_readsValley_58 : decode cX12_readsValley 58 = .ok (.aload_n 0, 1) := by decide +kernel
theorem dX12_readsValley_59 : decode cX12_readsValley 59 = .ok (.getfield 112, 3) := by decide +kernel
theorem dX12_readsValley_62 : decode cX12_readsValley 62 = .ok (.if_icmp .ge 10, 3) := by decide +kernel
theorem dX12_readsValley_65 : decode cX12_readsValley 65 = .ok (.aload_n 0, 1) := by decide +kernel
theorem dX12_readsValley_66 : decode cX12_readsValley 66 = .ok (.iload 4, 2) := by decide +kernel
theorem dX12_readsValley_68 : decode cX12_readsValley 68 = .ok (.invokevirtual 115, 3) := by decide +kernel
theorem dX12_readsValley_71 : decode cX12_readsValley 71 = .ok (.ireturn, 1) := by decide +kernel
theorem dX12_readsValley_72 : decode cX12_readsValley 72 = .ok (.aload_n 0, 1) := by decide +kernel
theorem dX12_readsValley_73 : decode cX12_readsValley 73 = .ok (.iload_n 3, 1) := by decide +kernel
theorem dX12_readsValley_74 : decode cX12_readsValley 74 = .ok (.putfield 112, 3) := by decide +kernel
theorem dX12_readsValley_77 : decode cX12_readsValley 77 = .ok (.iconst 0, 1) := by decide +kernel
theorem dX12_readsValley_78 : decode cX12_readsValley 78 = .ok (.istore_n 3, 1) := by decide +kernel
theorem dX12_readsValley_79 : decode cX12_readsValley 79 = .ok (.iinc 2 1, 3) := by decide +kernel
theorem dX12_readsValley_82 : decode cX12_readsValley 82 = .ok (.goto 84, 3) := by decide +kernel
theorem dX12_readsValley_85 : decode cX12_readsValley 85 = .ok (.iload 5, 2) := by decide +kernel
theorem dX12_readsValley_87 : decode cX12_readsValley 87 = .ok (.bipush 46, 2) := by decide +kernel
theorem dX12_readsValley_89 : decode cX12_readsValley 89 = .ok (.if_icmp .eq 10, 3) := by decide +kernel
theorem dX12_readsValley_92 : decode cX12_readsValley 92 = .ok (.iload 5, 2) := by decide +kernel
theorem dX12_readsValley_94 : decode cX12_readsValley 94 = .ok (.bipush 35, 2) := by decide +kernel
theorem dX12_readsValley_96 : decode cX12_readsValley 96 = .ok (.if_icmp .ne 29, 3) := by decide +kernel
theorem dX12_readsValley_99 : decode cX12_readsValley 99 = .ok (.iload_n 2, 1) := by decide +kernel
theorem dX12_readsValley_100 : decode cX12_readsValley 100 = .ok (.bipush 6, 2) := by decide +kernel
theorem dX12_readsValley_102 : decode cX12_readsValley 102 = .ok (.if_icmp .eq 23, 3) := by decide +kernel
theorem dX12_readsValley_105 : decode cX12_readsValley 105 = .ok (.iload_n 3, 1) := by decide +kernel
theorem dX12_readsValley_106 : decode cX12_readsValley 106 = .ok (.aload_n 0, 1) := by decide +kernel
theorem dX12_readsValley_107 : decode cX12_readsValley 107 = .ok (.getfield 112, 3) := by decide +kernel
theorem dX12_readsValley_110 : decode cX12_readsValley 110 = .ok (.ifCond .ne 8, 3) := by decide +kernel
theorem dX12_readsValley_113 : decode cX12_readsValley 113 = .ok (.bipush 6, 2) := by decide +kernel
theorem dX12_readsValley_115 : decode cX12_readsValley 115 = .ok (.goto 7, 3) := by decide +kernel
theorem dX12_readsValley_118 : decode cX12_readsValley 118 = .ok (.aload_n 0, 1) := by decide +kernel
theorem dX12_readsValley_119 : decode cX12_readsValley 119 = .ok (.getfield 112, 3) := by decide +kernel
theorem dX12_readsValley_122 : decode cX12_readsValley 122 = .ok (.if_icmp .ne 10, 3) := by decide +kernel
theorem dX12_readsValley_125 : decode cX12_readsValley 125 = .ok (.aload_n 0, 1) := by decide +kernel
theorem dX12_readsValley_126 : decode cX12_readsValley 126 = .ok (.iload 4, 2) := by decide +kernel
theorem dX12_readsValley_128 : decode cX12_readsValley 128 = .ok (.invokevirtual 115, 3) := by decide +kernel
theorem dX12_readsValley_131 : decode cX12_readsValley 131 = .ok (.ireturn, 1) := by decide +kernel
theorem dX12_readsValley_132 : decode cX12_readsValley 132 = .ok (.aload_n 0, 1) := by decide +kernel
theorem dX12_readsValley_133 : decode cX12_readsValley 133 = .ok (.getfield 28, 3) := by decide +kernel
theorem dX12_readsValley_136 : decode cX12_readsValley 136 = .ok (.aload_n 0, 1) := by decide +kernel
theorem dX12_readsValley_137 : decode cX12_readsValley 137 = .ok (.getfield 109, 3) := by decide +kernel
theorem dX12_readsValley_140 : decode cX12_readsValley 140 = .ok (.iload 5, 2) := by decide +kernel
theorem dX12_readsValley_142 : decode cX12_readsValley 142 = .ok (.bipush 35, 2) := by decide +kernel
theorem dX12_readsValley_144 : decode cX12_readsValley 144 = .ok (.if_icmp .ne 7, 3) := by decide +kernel
theorem dX12_readsValley_147 : decode cX12_readsValley 147 = .ok (.iconst 1, 1) := by decide +kernel
theorem dX12_readsValley_148 : decode cX12_readsValley 148 = .ok (.goto 4, 3) := by decide +kernel
theorem dX12_readsValley_151 : decode cX12_readsValley 151 = .ok (.iconst 0, 1) := by decide +kernel
theorem dX12_readsValley_152 : decode cX12_readsValley 152 = .ok (.iastore, 1) := by decide +kernel
theorem dX12_readsValley_153 : decode cX12_readsValley 153 = .ok (.aload_n 0, 1) := by decide +kernel
theorem dX12_readsValley_154 : decode cX12_readsValley 154 = .ok (.dup, 1) := by decide +kernel
theorem dX12_readsValley_155 : decode cX12_readsValley 155 = .ok (.getfield 109, 3) := by decide +kernel
theorem dX12_readsValley_158 : decode cX12_readsValley 158 = .ok (.iconst 1, 1) := by decide +kernel
theorem dX12_readsValley_159 : decode cX12_readsValley 159 = .ok (.iadd, 1) := by decide +kernel
theorem dX12_readsValley_160 : decode cX12_readsValley 160 = .ok (.putfield 109, 3) := by decide +kernel
theorem dX12_readsValley_163 : decode cX12_readsValley 163 = .ok (.iinc 3 1, 3) := by decide +kernel
theorem dX12_readsValley_166 : decode cX12_readsValley 166 = .ok (.iinc 4 1, 3) := by decide +kernel
theorem dX12_readsValley_169 : decode cX12_readsValley 169 = .ok (.goto (-145), 3) := by decide +kernel
theorem dX12_readsValley_172 : decode cX12_readsValley 172 = .ok (.iload_n 1, 1) := by decide +kernel
theorem dX12_readsValley_173 : decode cX12_readsValley 173 = .ok (.ifCond .le 21, 3) := by decide +kernel
theorem dX12_readsValley_176 : decode cX12_readsValley 176 = .ok (.iload_n 3, 1) := by decide +kernel
theorem dX12_readsValley_177 : decode cX12_readsValley 177 = .ok (.ifCond .eq 11, 3) := by decide +kernel
theorem dX12_readsValley_180 : decode cX12_readsValley 180 = .ok (.iload_n 3, 1) := by decide +kernel
theorem dX12_readsValley_181 : decode cX12_readsValley 181 = .ok (.aload_n 0, 1) := by decide +kernel
theorem dX12_readsValley_182 : decode cX12_readsValley 182 = .ok (.getfield 112, 3) := by decide +kernel
theorem dX12_readsValley_185 : decode cX12_readsValley 185 = .ok (.if_icmp .ge 9, 3) := by decide +kernel
theorem dX12_readsValley_188 : decode cX12_readsValley 188 = .ok (.aload_n 0, 1) := by decide +kernel
theorem dX12_readsValley_189 : decode cX12_readsValley 189 = .ok (.iload_n 1, 1) := by decide +kernel
theorem dX12_readsValley_190 : decode cX12_readsValley 190 = .ok (.invokevirtual 115, 3) := by decide +kernel
theorem dX12_readsValley_193 : decode cX12_readsValley 193 = .ok (.ireturn, 1) := by decide +kernel
theorem dX12_readsValley_194 : decode cX12_readsValley 194 = .ok (.aload_n 0, 1) := by decide +kernel
theorem dX12_readsValley_195 : decode cX12_readsValley 195 = .ok (.iload_n 1, 1) := by decide +kernel
theorem dX12_readsValley_196 : decode cX12_readsValley 196 = .ok (.ifCond .le 7, 3) := by decide +kernel
theorem dX12_readsValley_199 : decode cX12_readsValley 199 = .ok (.iload_n 3, 1) := by decide +kernel
theorem dX12_readsValley_200 : decode cX12_readsValley 200 = .ok (.goto 4, 3) := by decide +kernel
theorem dX12_readsValley_203 : decode cX12_readsValley 203 = .ok (.iconst 0, 1) := by decide +kernel
theorem dX12_readsValley_204 : decode cX12_readsValley 204 = .ok (.putfield 112, 3) := by decide +kernel
theorem dX12_readsValley_207 : decode cX12_readsValley 207 = .ok (.iconst (-1), 1) := by decide +kernel
theorem dX12_readsValley_208 : decode cX12_readsValley 208 = .ok (.ireturn, 1) := by decide +kernel
theorem dX12_thingOf_0 : decode cX12_thingOf 0 = .ok (.iload_n 0, 1) := by decide +kernel
theorem dX12_thingOf_1 : decode cX12_thingOf 1 = .ok (.tableswitch 136 0 3 #[31, 55, 79, 103], 31) := by decide +kernel
theorem dX12_thingOf_32 : decode cX12_thingOf 32 = .ok (.iload_n 1, 1) := by decide +kernel
theorem dX12_thingOf_33 : decode cX12_thingOf 33 = .ok (.i2l, 1) := by decide +kernel
theorem dX12_thingOf_34 : decode cX12_thingOf 34 = .ok (.ldc2_w 118, 3) := by decide +kernel
theorem dX12_thingOf_37 : decode cX12_thingOf 37 = .ok (.ldc2_w 120, 3) := by decide +kernel
theorem dX12_thingOf_40 : decode cX12_thingOf 40 = .ok (.invokestatic 76, 3) := by decide +kernel
theorem dX12_thingOf_43 : decode cX12_thingOf 43 = .ok (.ifCond .eq 10, 3) := by decide +kernel
theorem dX12_thingOf_46 : decode cX12_thingOf 46 = .ok (.iload_n 1, 1) := by decide +kernel
theorem dX12_thingOf_47 : decode cX12_thingOf 47 = .ok (.bipush 48, 2) := by decide +kernel
theorem dX12_thingOf_49 : decode cX12_thingOf 49 = .ok (.isub, 1) := by decide +kernel
theorem dX12_thingOf_50 : decode cX12_thingOf 50 = .ok (.goto 5, 3) := by decide +kernel
theorem dX12_thingOf_53 : decode cX12_thingOf 53 = .ok (.bipush (-9), 2) := by decide +kernel
theorem dX12_thingOf_55 : decode cX12_thingOf 55 = .ok (.ireturn, 1) := by decide +kernel
theorem dX12_thingOf_56 : decode cX12_thingOf 56 = .ok (.iload_n 1, 1) := by decide +kernel
theorem dX12_thingOf_57 : decode cX12_thingOf 57 = .ok (.i2l, 1) := by decide +kernel
theorem dX12_thingOf_58 : decode cX12_thingOf 58 = .ok (.ldc2_w 118, 3) := by decide +kernel
theorem dX12_thingOf_61 : decode cX12_thingOf 61 = .ok (.ldc2_w 122, 3) := by decide +kernel
theorem dX12_thingOf_64 : decode cX12_thingOf 64 = .ok (.invokestatic 76, 3) := by decide +kernel
theorem dX12_thingOf_67 : decode cX12_thingOf 67 = .ok (.ifCond .eq 10, 3) := by decide +kernel
theorem dX12_thingOf_70 : decode cX12_thingOf 70 = .ok (.iload_n 1, 1) := by decide +kernel
theorem dX12_thingOf_71 : decode cX12_thingOf 71 = .ok (.bipush 48, 2) := by decide +kernel
theorem dX12_thingOf_73 : decode cX12_thingOf 73 = .ok (.isub, 1) := by decide +kernel
theorem dX12_thingOf_74 : decode cX12_thingOf 74 = .ok (.goto 5, 3) := by decide +kernel
theorem dX12_thingOf_77 : decode cX12_thingOf 77 = .ok (.bipush (-9), 2) := by decide +kernel
theorem dX12_thingOf_79 : decode cX12_thingOf 79 = .ok (.ireturn, 1) := by decide +kernel
theorem dX12_thingOf_80 : decode cX12_thingOf 80 = .ok (.iload_n 1, 1) := by decide +kernel
theorem dX12_thingOf_81 : decode cX12_thingOf 81 = .ok (.i2l, 1) := by decide +kernel
theorem dX12_thingOf_82 : decode cX12_thingOf 82 = .ok (.ldc2_w 124, 3) := by decide +kernel
theorem dX12_thingOf_85 : decode cX12_thingOf 85 = .ok (.ldc2_w 122, 3) := by decide +kernel
theorem dX12_thingOf_88 : decode cX12_thingOf 88 = .ok (.invokestatic 76, 3) := by decide +kernel
theorem dX12_thingOf_91 : decode cX12_thingOf 91 = .ok (.ifCond .eq 10, 3) := by decide +kernel
theorem dX12_thingOf_94 : decode cX12_thingOf 94 = .ok (.iload_n 1, 1) := by decide +kernel
theorem dX12_thingOf_95 : decode cX12_thingOf 95 = .ok (.bipush 48, 2) := by decide +kernel
theorem dX12_thingOf_97 : decode cX12_thingOf 97 = .ok (.isub, 1) := by decide +kernel
theorem dX12_thingOf_98 : decode cX12_thingOf 98 = .ok (.goto 5, 3) := by decide +kernel
theorem dX12_thingOf_101 : decode cX12_thingOf 101 = .ok (.bipush (-9), 2) := by decide +kernel
theorem dX12_thingOf_103 : decode cX12_thingOf 103 = .ok (.ireturn, 1) := by decide +kernel
theorem dX12_thingOf_104 : decode cX12_thingOf 104 = .ok (.iload_n 1, 1) := by decide +kernel
theorem dX12_thingOf_105 : decode cX12_thingOf 105 = .ok (.bipush 112, 2) := by decide +kernel
theorem dX12_thingOf_107 : decode cX12_thingOf 107 = .ok (.if_icmp .ne 7, 3) := by decide +kernel
theorem dX12_thingOf_110 : decode cX12_thingOf 110 = .ok (.iconst 0, 1) := by decide +kernel
theorem dX12_thingOf_111 : decode cX12_thingOf 111 = .ok (.goto 25, 3) := by decide +kernel
theorem dX12_thingOf_114 : decode cX12_thingOf 114 = .ok (.iload_n 1, 1) := by decide +kernel
theorem dX12_thingOf_115 : decode cX12_thingOf 115 = .ok (.bipush 98, 2) := by decide +kernel
theorem dX12_thingOf_117 : decode cX12_thingOf 117 = .ok (.if_icmp .ne 7, 3) := by decide +kernel
theorem dX12_thingOf_120 : decode cX12_thingOf 120 = .ok (.iconst 1, 1) := by decide +kernel
theorem dX12_thingOf_121 : decode cX12_thingOf 121 = .ok (.goto 15, 3) := by decide +kernel
theorem dX12_thingOf_124 : decode cX12_thingOf 124 = .ok (.iload_n 1, 1) := by decide +kernel
theorem dX12_thingOf_125 : decode cX12_thingOf 125 = .ok (.bipush 116, 2) := by decide +kernel
theorem dX12_thingOf_127 : decode cX12_thingOf 127 = .ok (.if_icmp .ne 7, 3) := by decide +kernel
theorem dX12_thingOf_130 : decode cX12_thingOf 130 = .ok (.iconst 2, 1) := by decide +kernel
theorem dX12_thingOf_131 : decode cX12_thingOf 131 = .ok (.goto 5, 3) := by decide +kernel
theorem dX12_thingOf_134 : decode cX12_thingOf 134 = .ok (.bipush (-9), 2) := by decide +kernel
theorem dX12_thingOf_136 : decode cX12_thingOf 136 = .ok (.ireturn, 1) := by decide +kernel
theorem dX12_thingOf_137 : decode cX12_thingOf 137 = .ok (.iload_n 1, 1) := by decide +kernel
theorem dX12_thingOf_138 : decode cX12_thingOf 138 = .ok (.bipush 59, 2) := by decide +kernel
theorem dX12_thingOf_140 : decode cX12_thingOf 140 = .ok (.if_icmp .ne 7, 3) := by decide +kernel
theorem dX12_thingOf_143 : decode cX12_thingOf 143 = .ok (.iconst 0, 1) := by decide +kernel
theorem dX12_thingOf_144 : decode cX12_thingOf 144 = .ok (.goto 5, 3) := by decide +kernel
theorem dX12_thingOf_147 : decode cX12_thingOf 147 = .ok (.bipush (-9), 2) := by decide +kernel
theorem dX12_thingOf_149 : decode cX12_thingOf 149 = .ok (.ireturn, 1) := by decide +kernel
theorem dX12_readsThings_0 : decode cX12_readsThings 0 = .ok (.aload_n 0, 1) := by decide +kernel
theorem dX12_readsThings_1 : decode cX12_readsThings 1 = .ok (.iconst 0, 1) := by decide +kernel
theorem dX12_readsThings_2 : decode cX12_readsThings 2 = .ok (.putfield 126, 3) := by decide +kernel
theorem dX12_readsThings_5 : decode cX12_readsThings 5 = .ok (.aload_n 0, 1) := by decide +kernel
theorem dX12_readsThings_6 : decode cX12_readsThings 6 = .ok (.getfield 25, 3) := by decide +kernel
theorem dX12_readsThings_9 : decode cX12_readsThings 9 = .ok (.iconst 1, 1) := by decide +kernel
theorem dX12_readsThings_10 : decode cX12_readsThings 10 = .ok (.iaload, 1) := by decide +kernel
theorem dX12_readsThings_11 : decode cX12_readsThings 11 = .ok (.istore_n 1, 1) := by decide +kernel
theorem dX12_readsThings_12 : decode cX12_readsThings 12 = .ok (.iconst 0, 1) := by decide +kernel
theorem dX12_readsThings_13 : decode cX12_readsThings 13 = .ok (.istore_n 2, 1) := by decide +kernel
theorem dX12_readsThings_14 : decode cX12_readsThings 14 = .ok (.iload_n 2, 1) := by decide +kernel
theorem dX12_readsThings_15 : decode cX12_readsThings 15 = .ok (.iload_n 1, 1) := by decide +kernel
theorem dX12_readsThings_16 : decode cX12_readsThings 16 = .ok (.if_icmp .ge 133, 3) := by decide +kernel
theorem dX12_readsThings_19 : decode cX12_readsThings 19 = .ok (.iload_n 2, 1) := by decide +kernel
theorem dX12_readsThings_20 : decode cX12_readsThings 20 = .ok (.iconst 5, 1) := by decide +kernel
theorem dX12_readsThings_21 : decode cX12_readsThings 21 = .ok (.irem, 1) := by decide +kernel
theorem dX12_readsThings_22 : decode cX12_readsThings 22 = .ok (.istore_n 3, 1) := by decide +kernel
theorem dX12_readsThings_23 : decode cX12_readsThings 23 = .ok (.iload_n 3, 1) := by decide +kernel
theorem dX12_readsThings_24 : decode cX12_readsThings 24 = .ok (.aload_n 0, 1) := by decide +kernel
theorem dX12_readsThings_25 : decode cX12_readsThings 25 = .ok (.getfield 22, 3) := by decide +kernel
theorem dX12_readsThings_28 : decode cX12_readsThings 28 = .ok (.bipush 42, 2) := by decide +kernel
theorem dX12_readsThings_30 : decode cX12_readsThings 30 = .ok (.iload_n 2, 1) := by decide +kernel
theorem dX12_readsThings_31 : decode cX12_readsThings 31 = .ok (.iadd, 1) := by decide +kernel
theorem dX12_readsThings_32 : decode cX12_readsThings 32 = .ok (.iaload, 1) := by decide +kernel
theorem dX12_readsThings_33 : decode cX12_readsThings 33 = .ok (.invokestatic 129, 3) := by decide +kernel
theorem dX12_readsThings_36 : decode cX12_readsThings 36 = .ok (.istore 4, 2) := by decide +kernel
theorem dX12_readsThings_38 : decode cX12_readsThings 38 = .ok (.iload 4, 2) := by decide +kernel
theorem dX12_readsThings_40 : decode cX12_readsThings 40 = .ok (.bipush (-9), 2) := by decide +kernel
theorem dX12_readsThings_42 : decode cX12_readsThings 42 = .ok (.if_icmp .ne 10, 3) := by decide +kernel
theorem dX12_readsThings_45 : decode cX12_readsThings 45 = .ok (.aload_n 0, 1) := by decide +kernel
theorem dX12_readsThings_46 : decode cX12_readsThings 46 = .ok (.iconst 0, 1) := by decide +kernel
theorem dX12_readsThings_47 : decode cX12_readsThings 47 = .ok (.putfield 126, 3) := by decide +kernel
theorem dX12_readsThings_50 : decode cX12_readsThings 50 = .ok (.iload_n 2, 1) := by decide +kernel
theorem dX12_readsThings_51 : decode cX12_readsThings 51 = .ok (.ireturn, 1) := by decide +kernel
theorem dX12_readsThings_52 : decode cX12_readsThings 52 = .ok (.iconst 3, 1) := by decide +kernel
theorem dX12_readsThings_53 : decode cX12_readsThings 53 = .ok (.iload_n 2, 1) := by decide +kernel
theorem dX12_readsThings_54 : decode cX12_readsThings 54 = .ok (.iconst 5, 1) := by decide +kernel
theorem dX12_readsThings_55 : decode cX12_readsThings 55 = .ok (.idiv, 1) := by decide +kernel
theorem dX12_readsThings_56 : decode cX12_readsThings 56 = .ok (.imul, 1) := by decide +kernel
theorem dX12_readsThings_57 : decode cX12_readsThings 57 = .ok (.istore 5, 2) := by decide +kernel
theorem dX12_readsThings_59 : decode cX12_readsThings 59 = .ok (.iload_n 3, 1) := by decide +kernel
theorem dX12_readsThings_60 : decode cX12_readsThings 60 = .ok (.ifCond .ne 18, 3) := by decide +kernel
theorem dX12_readsThings_63 : decode cX12_readsThings 63 = .ok (.aload_n 0, 1) := by decide +kernel
theorem dX12_readsThings_64 : decode cX12_readsThings 64 = .ok (.getfield 31, 3) := by decide +kernel
theorem dX12_readsThings_67 : decode cX12_readsThings 67 = .ok (.iload 5, 2) := by decide +kernel
theorem dX12_readsThings_69 : decode cX12_readsThings 69 = .ok (.bipush 10, 2) := by decide +kernel
theorem dX12_readsThings_71 : decode cX12_readsThings 71 = .ok (.iload 4, 2) := by decide +kernel
theorem dX12_readsThings_73 : decode cX12_readsThings 73 = .ok (.imul, 1) := by decide +kernel
theorem dX12_readsThings_74 : decode cX12_readsThings 74 = .ok (.iastore, 1) := by decide +kernel
theorem dX12_readsThings_75 : decode cX12_readsThings 75 = .ok (.goto 68, 3) := by decide +kernel
theorem dX12_readsThings_78 : decode cX12_readsThings 78 = .ok (.iload_n 3, 1) := by decide +kernel
theorem dX12_readsThings_79 : decode cX12_readsThings 79 = .ok (.iconst 1, 1) := by decide +kernel
theorem dX12_readsThings_80 : decode cX12_readsThings 80 = .ok (.if_icmp .ne 18, 3) := by decide +kernel
theorem dX12_readsThings_83 : decode cX12_readsThings 83 = .ok (.aload_n 0, 1) := by decide +kernel
theorem dX12_readsThings_84 : decode cX12_readsThings 84 = .ok (.getfield 31, 3) := by decide +kernel
theorem dX12_readsThings_87 : decode cX12_readsThings 87 = .ok (.iload 5, 2) := by decide +kernel
theorem dX12_readsThings_89 : decode cX12_readsThings 89 = .ok (.dup2, 1) := by decide +kernel
theorem dX12_readsThings_90 : decode cX12_readsThings 90 = .ok (.iaload, 1) := by decide +kernel
theorem dX12_readsThings_91 : decode cX12_readsThings 91 = .ok (.iload 4, 2) := by decide +kernel
theorem dX12_readsThings_93 : decode cX12_readsThings 93 = .ok (.iadd, 1) := by decide +kernel
theorem dX12_readsThings_94 : decode cX12_readsThings 94 = .ok (.iastore, 1) := by decide +kernel
theorem dX12_readsThings_95 : decode cX12_readsThings 95 = .ok (.goto 48, 3) := by decide +kernel
theorem dX12_readsThings_98 : decode cX12_readsThings 98 = .ok (.iload_n 3, 1) := by decide +kernel
theorem dX12_readsThings_99 : decode cX12_readsThings 99 = .ok (.iconst 2, 1) := by decide +kernel
theorem dX12_readsThings_100 : decode cX12_readsThings 100 = .ok (.if_icmp .ne 17, 3) := by decide +kernel
theorem dX12_readsThings_103 : decode cX12_readsThings 103 = .ok (.aload_n 0, 1) := by decide +kernel
theorem dX12_readsThings_104 : decode cX12_readsThings 104 = .ok (.getfield 31, 3) := by decide +kernel
theorem dX12_readsThings_107 : decode cX12_readsThings 107 = .ok (.iload 5, 2) := by decide +kernel
theorem dX12_readsThings_109 : decode cX12_readsThings 109 = .ok (.iconst 1, 1) := by decide +kernel
theorem dX12_readsThings_110 : decode cX12_readsThings 110 = .ok (.iadd, 1) := by decide +kernel
theorem dX12_readsThings_111 : decode cX12_readsThings 111 = .ok (.iload 4, 2) := by decide +kernel
theorem dX12_readsThings_113 : decode cX12_readsThings 113 = .ok (.iastore, 1) := by decide +kernel
theorem dX12_readsThings_114 : decode cX12_readsThings 114 = .ok (.goto 29, 3) := by decide +kernel
theorem dX12_readsThings_117 : decode cX12_readsThings 117 = .ok (.iload_n 3, 1) := by decide +kernel
theorem dX12_readsThings_118 : decode cX12_readsThings 118 = .ok (.iconst 3, 1) := by decide +kernel
theorem dX12_readsThings_119 : decode cX12_readsThings 119 = .ok (.if_icmp .ne 24, 3) := by decide +kernel
theorem dX12_readsThings_122 : decode cX12_readsThings 122 = .ok (.aload_n 0, 1) := by decide +kernel
theorem dX12_readsThings_123 : decode cX12_readsThings 123 = .ok (.getfield 31, 3) := by decide +kernel
theorem dX12_readsThings_126 : decode cX12_readsThings 126 = .ok (.iload 5, 2) := by decide +kernel
theorem dX12_readsThings_128 : decode cX12_readsThings 128 = .ok (.iconst 2, 1) := by decide +kernel
theorem dX12_readsThings_129 : decode cX12_readsThings 129 = .ok (.iadd, 1) := by decide +kernel
theorem dX12_readsThings_130 : decode cX12_readsThings 130 = .ok (.iload 4, 2) := by decide +kernel
theorem dX12_readsThings_132 : decode cX12_readsThings 132 = .ok (.iastore, 1) := by decide +kernel
theorem dX12_readsThings_133 : decode cX12_readsThings 133 = .ok (.aload_n 0, 1) := by decide +kernel
theorem dX12_readsThings_134 : decode cX12_readsThings 134 = .ok (.dup, 1) := by decide +kernel
theorem dX12_readsThings_135 : decode cX12_readsThings 135 = .ok (.getfield 126, 3) := by decide +kernel
theorem dX12_readsThings_138 : decode cX12_readsThings 138 = .ok (.iconst 1, 1) := by decide +kernel
theorem dX12_readsThings_139 : decode cX12_readsThings 139 = .ok (.iadd, 1) := by decide +kernel
theorem dX12_readsThings_140 : decode cX12_readsThings 140 = .ok (.putfield 126, 3) := by decide +kernel
theorem dX12_readsThings_143 : decode cX12_readsThings 143 = .ok (.iinc 2 1, 3) := by decide +kernel
theorem dX12_readsThings_146 : decode cX12_readsThings 146 = .ok (.goto (-132), 3) := by decide +kernel
theorem dX12_readsThings_149 : decode cX12_readsThings 149 = .ok (.iload_n 1, 1) := by decide +kernel
theorem dX12_readsThings_150 : decode cX12_readsThings 150 = .ok (.ifCond .le 17, 3) := by decide +kernel
theorem dX12_readsThings_153 : decode cX12_readsThings 153 = .ok (.iload_n 1, 1) := by decide +kernel
theorem dX12_readsThings_154 : decode cX12_readsThings 154 = .ok (.iconst 5, 1) := by decide +kernel
theorem dX12_readsThings_155 : decode cX12_readsThings 155 = .ok (.irem, 1) := by decide +kernel
theorem dX12_readsThings_156 : decode cX12_readsThings 156 = .ok (.iconst 4, 1) := by decide +kernel
theorem dX12_readsThings_157 : decode cX12_readsThings 157 = .ok (.if_icmp .eq 10, 3) := by decide +kernel
theorem dX12_readsThings_160 : decode cX12_readsThings 160 = .ok (.aload_n 0, 1) := by decide +kernel
theorem dX12_readsThings_161 : decode cX12_readsThings 161 = .ok (.iconst 0, 1) := by decide +kernel
theorem dX12_readsThings_162 : decode cX12_readsThings 162 = .ok (.putfield 126, 3) := by decide +kernel
theorem dX12_readsThings_165 : decode cX12_readsThings 165 = .ok (.iload_n 1, 1) := by decide +kernel
theorem dX12_readsThings_166 : decode cX12_readsThings 166 = .ok (.ireturn, 1) := by decide +kernel
theorem dX12_readsThings_167 : decode cX12_readsThings 167 = .ok (.iconst (-1), 1) := by decide +kernel
theorem dX12_readsThings_168 : decode cX12_readsThings 168 = .ok (.ireturn, 1) := by decide +kernel
theorem dX12_stills_0 : decode cX12_stills 0 = .ok (.iconst 0, 1) := by decide +kernel
theorem dX12_stills_1 : decode cX12_stills 1 = .ok (.istore_n 1, 1) := by decide +kernel
theorem dX12_stills_2 : decode cX12_stills 2 = .ok (.iload_n 1, 1) := by decide +kernel
theorem dX12_stills_3 : decode cX12_stills 3 = .ok (.bipush 20, 2) := by decide +kernel
theorem dX12_stills_5 : decode cX12_stills 5 = .ok (.if_icmp .ge 16, 3) := by decide +kernel
theorem dX12_stills_8 : decode cX12_stills 8 = .ok (.aload_n 0, 1) := by decide +kernel
theorem dX12_stills_9 : decode cX12_stills 9 = .ok (.getfield 34, 3) := by decide +kernel
theorem dX12_stills_12 : decode cX12_stills 12 = .ok (.iload_n 1, 1) := by decide +kernel
theorem dX12_stills_13 : decode cX12_stills 13 = .ok (.iconst (-1), 1) := by decide +kernel
theorem dX12_stills_14 : decode cX12_stills 14 = .ok (.iastore, 1) := by decide +kernel
theorem dX12_stills_15 : decode cX12_stills 15 = .ok (.iinc 1 1, 3) := by decide +kernel
theorem dX12_stills_18 : decode cX12_stills 18 = .ok (.goto (-16), 3) := by decide +kernel
theorem dX12_stills_21 : decode cX12_stills 21 = .ok (.return_, 1) := by decide +kernel
theorem dX12_readsWind_0 : decode cX12_readsWind 0 = .ok (.aload_n 0, 1) := by decide +kernel
theorem dX12_readsWind_1 : decode cX12_readsWind 1 = .ok (.invokevirtual 132, 3) := by decide +kernel
theorem dX12_readsWind_4 : decode cX12_readsWind 4 = .ok (.iconst 0, 1) := by decide +kernel
theorem dX12_readsWind_5 : decode cX12_readsWind 5 = .ok (.istore_n 1, 1) := by decide +kernel
theorem dX12_readsWind_6 : decode cX12_readsWind 6 = .ok (.iload_n 1, 1) := by decide +kernel
theorem dX12_readsWind_7 : decode cX12_readsWind 7 = .ok (.aload_n 0, 1) := by decide +kernel
theorem dX12_readsWind_8 : decode cX12_readsWind 8 = .ok (.getfield 25, 3) := by decide +kernel
theorem dX12_readsWind_11 : decode cX12_readsWind 11 = .ok (.iconst 2, 1) := by decide +kernel
theorem dX12_readsWind_12 : decode cX12_readsWind 12 = .ok (.iaload, 1) := by decide +kernel
theorem dX12_readsWind_13 : decode cX12_readsWind 13 = .ok (.if_icmp .ge 91, 3) := by decide +kernel
theorem dX12_readsWind_16 : decode cX12_readsWind 16 = .ok (.aload_n 0, 1) := by decide +kernel
theorem dX12_readsWind_17 : decode cX12_readsWind 17 = .ok (.getfield 22, 3) := by decide +kernel
theorem dX12_readsWind_20 : decode cX12_readsWind 20 = .ok (.bipush 84, 2) := by decide +kernel
theorem dX12_readsWind_22 : decode cX12_readsWind 22 = .ok (.iload_n 1, 1) := by decide +kernel
theorem dX12_readsWind_23 : decode cX12_readsWind 23 = .ok (.iadd, 1) := by decide +kernel
theorem dX12_readsWind_24 : decode cX12_readsWind 24 = .ok (.iaload, 1) := by decide +kernel
theorem dX12_readsWind_25 : decode cX12_readsWind 25 = .ok (.istore_n 2, 1) := by decide +kernel
theorem dX12_readsWind_26 : decode cX12_readsWind 26 = .ok (.iload_n 2, 1) := by decide +kernel
theorem dX12_readsWind_27 : decode cX12_readsWind 27 = .ok (.bipush 110, 2) := by decide +kernel
theorem dX12_readsWind_29 : decode cX12_readsWind 29 = .ok (.if_icmp .ne 7, 3) := by decide +kernel
theorem dX12_readsWind_32 : decode cX12_readsWind 32 = .ok (.iconst 0, 1) := by decide +kernel
theorem dX12_readsWind_33 : decode cX12_readsWind 33 = .ok (.goto 45, 3) := by decide +kernel
theorem dX12_readsWind_36 : decode cX12_readsWind 36 = .ok (.iload_n 2, 1) := by decide +kernel
theorem dX12_readsWind_37 : decode cX12_readsWind 37 = .ok (.bipush 101, 2) := by decide +kernel
theorem dX12_readsWind_39 : decode cX12_readsWind 39 = .ok (.if_icmp .ne 7, 3) := by decide +kernel
theorem dX12_readsWind_42 : decode cX12_readsWind 42 = .ok (.iconst 1, 1) := by decide +kernel
theorem dX12_readsWind_43 : decode cX12_readsWind 43 = .ok (.goto 35, 3) := by decide +kernel
theorem dX12_readsWind_46 : decode cX12_readsWind 46 = .ok (.iload_n 2, 1) := by decide +kernel
theorem dX12_readsWind_47 : decode cX12_readsWind 47 = .ok (.bipush 115, 2) := by decide +kernel
theorem dX12_readsWind_49 : decode cX12_readsWind 49 = .ok (.if_icmp .ne 7, 3) := by decide +kernel
theorem dX12_readsWind_52 : decode cX12_readsWind 52 = .ok (.iconst 2, 1) := by decide +kernel
theorem dX12_readsWind_53 : decode cX12_readsWind 53 = .ok (.goto 25, 3) := by decide +kernel
theorem dX12_readsWind_56 : decode cX12_readsWind 56 = .ok (.iload_n 2, 1) := by decide +kernel
theorem dX12_readsWind_57 : decode cX12_readsWind 57 = .ok (.bipush 119, 2) := by decide +kernel
theorem dX12_readsWind_59 : decode cX12_readsWind 59 = .ok (.if_icmp .ne 7, 3) := by decide +kernel
theorem dX12_readsWind_62 : decode cX12_readsWind 62 = .ok (.iconst 3, 1) := by decide +kernel
theorem dX12_readsWind_63 : decode cX12_readsWind 63 = .ok (.goto 15, 3) := by decide +kernel
theorem dX12_readsWind_66 : decode cX12_readsWind 66 = .ok (.iload_n 2, 1) := by decide +kernel
theorem dX12_readsWind_67 : decode cX12_readsWind 67 = .ok (.bipush 46, 2) := by decide +kernel
theorem dX12_readsWind_69 : decode cX12_readsWind 69 = .ok (.if_icmp .ne 7, 3) := by decide +kernel
theorem dX12_readsWind_72 : decode cX12_readsWind 72 = .ok (.iconst (-1), 1) := by decide +kernel
theorem dX12_readsWind_73 : decode cX12_readsWind 73 = .ok (.goto 5, 3) := by decide +kernel
theorem dX12_readsWind_76 : decode cX12_readsWind 76 = .ok (.bipush (-9), 2) := by decide +kernel
theorem dX12_readsWind_78 : decode cX12_readsWind 78 = .ok (.istore_n 3, 1) := by decide +kernel
theorem dX12_readsWind_79 : decode cX12_readsWind 79 = .ok (.iload_n 3, 1) := by decide +kernel
theorem dX12_readsWind_80 : decode cX12_readsWind 80 = .ok (.bipush (-9), 2) := by decide +kernel
theorem dX12_readsWind_82 : decode cX12_readsWind 82 = .ok (.if_icmp .ne 9, 3) := by decide +kernel
theorem dX12_readsWind_85 : decode cX12_readsWind 85 = .ok (.aload_n 0, 1) := by decide +kernel
theorem dX12_readsWind_86 : decode cX12_readsWind 86 = .ok (.invokevirtual 132, 3) := by decide +kernel
theorem dX12_readsWind_89 : decode cX12_readsWind 89 = .ok (.iload_n 1, 1) := by decide +kernel
theorem dX12_readsWind_90 : decode cX12_readsWind 90 = .ok (.ireturn, 1) := by decide +kernel
theorem dX12_readsWind_91 : decode cX12_readsWind 91 = .ok (.aload_n 0, 1) := by decide +kernel
theorem dX12_readsWind_92 : decode cX12_readsWind 92 = .ok (.getfield 34, 3) := by decide +kernel
theorem dX12_readsWind_95 : decode cX12_readsWind 95 = .ok (.iload_n 1, 1) := by decide +kernel
theorem dX12_readsWind_96 : decode cX12_readsWind 96 = .ok (.iload_n 3, 1) := by decide +kernel
theorem dX12_readsWind_97 : decode cX12_readsWind 97 = .ok (.iastore, 1) := by decide +kernel
theorem dX12_readsWind_98 : decode cX12_readsWind 98 = .ok (.iinc 1 1, 3) := by decide +kernel
theorem dX12_readsWind_101 : decode cX12_readsWind 101 = .ok (.goto (-95), 3) := by decide +kernel
theorem dX12_readsWind_104 : decode cX12_readsWind 104 = .ok (.iconst (-1), 1) := by decide +kernel
theorem dX12_readsWind_105 : decode cX12_readsWind 105 = .ok (.ireturn, 1) := by decide +kernel
theorem dX12_readsText_0 : decode cX12_readsText 0 = .ok (.iload_n 1, 1) := by decide +kernel
theorem dX12_readsText_1 : decode cX12_readsText 1 = .ok (.ifCond .ne 10, 3) := by decide +kernel
theorem dX12_readsText_4 : decode cX12_readsText 4 = .ok (.aload_n 0, 1) := by decide +kernel
theorem dX12_readsText_5 : decode cX12_readsText 5 = .ok (.invokevirtual 135, 3) := by decide +kernel
theorem dX12_readsText_8 : decode cX12_readsText 8 = .ok (.goto 19, 3) := by decide +kernel
theorem dX12_readsText_11 : decode cX12_readsText 11 = .ok (.iload_n 1, 1) := by decide +kernel
theorem dX12_readsText_12 : decode cX12_readsText 12 = .ok (.iconst 1, 1) := by decide +kernel
theorem dX12_readsText_13 : decode cX12_readsText 13 = .ok (.if_icmp .ne 10, 3) := by decide +kernel
theorem dX12_readsText_16 : decode cX12_readsText 16 = .ok (.aload_n 0, 1) := by decide +kernel
theorem dX12_readsText_17 : decode cX12_readsText 17 = .ok (.invokevirtual 139, 3) := by decide +kernel
theorem dX12_readsText_20 : decode cX12_readsText 20 = .ok (.goto 7, 3) := by decide +kernel
theorem dX12_readsText_23 : decode cX12_readsText 23 = .ok (.aload_n 0, 1) := by decide +kernel
theorem dX12_readsText_24 : decode cX12_readsText 24 = .ok (.invokevirtual 142, 3) := by decide +kernel
theorem dX12_readsText_27 : decode cX12_readsText 27 = .ok (.ireturn, 1) := by decide +kernel
theorem dX12_fault_0 : decode cX12_fault 0 = .ok (.iload_n 1, 1) := by decide +kernel
theorem dX12_fault_1 : decode cX12_fault 1 = .ok (.invokestatic 104, 3) := by decide +kernel
theorem dX12_fault_4 : decode cX12_fault 4 = .ok (.ifCond .eq 11, 3) := by decide +kernel
theorem dX12_fault_7 : decode cX12_fault 7 = .ok (.aload_n 0, 1) := by decide +kernel
theorem dX12_fault_8 : decode cX12_fault 8 = .ok (.iload_n 1, 1) := by decide +kernel
theorem dX12_fault_9 : decode cX12_fault 9 = .ok (.invokevirtual 145, 3) := by decide +kernel
theorem dX12_fault_12 : decode cX12_fault 12 = .ok (.goto 5, 3) := by decide +kernel
theorem dX12_fault_15 : decode cX12_fault 15 = .ok (.bipush (-2), 2) := by decide +kernel
theorem dX12_fault_17 : decode cX12_fault 17 = .ok (.ireturn, 1) := by decide +kernel
theorem dX12_isCell_0 : decode cX12_isCell 0 = .ok (.iload_n 1, 1) := by decide +kernel
theorem dX12_isCell_1 : decode cX12_isCell 1 = .ok (.i2l, 1) := by decide +kernel
theorem dX12_isCell_2 : decode cX12_isCell 2 = .ok (.lconst 0, 1) := by decide +kernel
theorem dX12_isCell_3 : decode cX12_isCell 3 = .ok (.aload_n 0, 1) := by decide +kernel
theorem dX12_isCell_4 : decode cX12_isCell 4 = .ok (.getfield 109, 3) := by decide +kernel
theorem dX12_isCell_7 : decode cX12_isCell 7 = .ok (.iconst 1, 1) := by decide +kernel
theorem dX12_isCell_8 : decode cX12_isCell 8 = .ok (.isub, 1) := by decide +kernel
theorem dX12_isCell_9 : decode cX12_isCell 9 = .ok (.i2l, 1) := by decide +kernel
theorem dX12_isCell_10 : decode cX12_isCell 10 = .ok (.invokestatic 76, 3) := by decide +kernel
theorem dX12_isCell_13 : decode cX12_isCell 13 = .ok (.ireturn, 1) := by decide +kernel
theorem dX12_isThing_0 : decode cX12_isThing 0 = .ok (.iload_n 1, 1) := by decide +kernel
theorem dX12_isThing_1 : decode cX12_isThing 1 = .ok (.i2l, 1) := by decide +kernel
theorem dX12_isThing_2 : decode cX12_isThing 2 = .ok (.lconst 0, 1) := by decide +kernel
theorem dX12_isThing_3 : decode cX12_isThing 3 = .ok (.aload_n 0, 1) := by decide +kernel
theorem dX12_isThing_4 : decode cX12_isThing 4 = .ok (.getfield 126, 3) := by decide +kernel
theorem dX12_isThing_7 : decode cX12_isThing 7 = .ok (.iconst 1, 1) := by decide +kernel
theorem dX12_isThing_8 : decode cX12_isThing 8 = .ok (.isub, 1) := by decide +kernel
theorem dX12_isThing_9 : decode cX12_isThing 9 = .ok (.i2l, 1) := by decide +kernel
theorem dX12_isThing_10 : decode cX12_isThing 10 = .ok (.invokestatic 76, 3) := by decide +kernel
theorem dX12_isThing_13 : decode cX12_isThing 13 = .ok (.ireturn, 1) := by decide +kernel
theorem dX12_isStep_0 : decode cX12_isStep 0 = .ok (.iload_n 0, 1) := by decide +kernel
theorem dX12_isStep_1 : decode cX12_isStep 1 = .ok (.i2l, 1) := by decide +kernel
theorem dX12_isStep_2 : decode cX12_isStep 2 = .ok (.lconst 0, 1) := by decide +kernel
theorem dX12_isStep_3 : decode cX12_isStep 3 = .ok (.ldc2_w 148, 3) := by decide +kernel
theorem dX12_isStep_6 : decode cX12_isStep 6 = .ok (.invokestatic 76, 3) := by decide +kernel
theorem dX12_isStep_9 : decode cX12_isStep 9 = .ok (.ireturn, 1) := by decide +kernel
theorem dX12_cell_0 : decode cX12_cell 0 = .ok (.aload_n 0, 1) := by decide +kernel
theorem dX12_cell_1 : decode cX12_cell 1 = .ok (.invokevirtual 135, 3) := by decide +kernel
theorem dX12_cell_4 : decode cX12_cell 4 = .ok (.pop, 1) := by decide +kernel
theorem dX12_cell_5 : decode cX12_cell 5 = .ok (.iload_n 1, 1) := by decide +kernel
theorem dX12_cell_6 : decode cX12_cell 6 = .ok (.i2l, 1) := by decide +kernel
theorem dX12_cell_7 : decode cX12_cell 7 = .ok (.lconst 0, 1) := by decide +kernel
theorem dX12_cell_8 : decode cX12_cell 8 = .ok (.ldc2_w 150, 3) := by decide +kernel
theorem dX12_cell_11 : decode cX12_cell 11 = .ok (.invokestatic 76, 3) := by decide +kernel
theorem dX12_cell_14 : decode cX12_cell 14 = .ok (.ifCond .ne 8, 3) := by decide +kernel
theorem dX12_cell_17 : decode cX12_cell 17 = .ok (.bipush (-2), 2) := by decide +kernel
theorem dX12_cell_19 : decode cX12_cell 19 = .ok (.goto 21, 3) := by decide +kernel
theorem dX12_cell_22 : decode cX12_cell 22 = .ok (.iload_n 1, 1) := by decide +kernel
theorem dX12_cell_23 : decode cX12_cell 23 = .ok (.aload_n 0, 1) := by decide +kernel
theorem dX12_cell_24 : decode cX12_cell 24 = .ok (.getfield 109, 3) := by decide +kernel
theorem dX12_cell_27 : decode cX12_cell 27 = .ok (.if_icmp .ge 12, 3) := by decide +kernel
theorem dX12_cell_30 : decode cX12_cell 30 = .ok (.aload_n 0, 1) := by decide +kernel
theorem dX12_cell_31 : decode cX12_cell 31 = .ok (.getfield 28, 3) := by decide +kernel
theorem dX12_cell_34 : decode cX12_cell 34 = .ok (.iload_n 1, 1) := by decide +kernel
theorem dX12_cell_35 : decode cX12_cell 35 = .ok (.iaload, 1) := by decide +kernel
theorem dX12_cell_36 : decode cX12_cell 36 = .ok (.goto 4, 3) := by decide +kernel
theorem dX12_cell_39 : decode cX12_cell 39 = .ok (.iconst (-1), 1) := by decide +kernel
theorem dX12_cell_40 : decode cX12_cell 40 = .ok (.ireturn, 1) := by decide +kernel
theorem dX12_thing_0 : decode cX12_thing 0 = .ok (.aload_n 0, 1) := by decide +kernel
theorem dX12_thing_1 : decode cX12_thing 1 = .ok (.invokevirtual 139, 3) := by decide +kernel
theorem dX12_thing_4 : decode cX12_thing 4 = .ok (.pop, 1) := by decide +kernel
theorem dX12_thing_5 : decode cX12_thing 5 = .ok (.aload_n 0, 1) := by decide +kernel
theorem dX12_thing_6 : decode cX12_thing 6 = .ok (.iload_n 1, 1) := by decide +kernel
theorem dX12_thing_7 : decode cX12_thing 7 = .ok (.invokevirtual 152, 3) := by decide +kernel
theorem dX12_thing_10 : decode cX12_thing 10 = .ok (.ifCond .eq 28, 3) := by decide +kernel
theorem dX12_thing_13 : decode cX12_thing 13 = .ok (.iload_n 2, 1) := by decide +kernel
theorem dX12_thing_14 : decode cX12_thing 14 = .ok (.i2l, 1) := by decide +kernel
theorem dX12_thing_15 : decode cX12_thing 15 = .ok (.lconst 0, 1) := by decide +kernel
theorem dX12_thing_16 : decode cX12_thing 16 = .ok (.ldc2_w 89, 3) := by decide +kernel
theorem dX12_thing_19 : decode cX12_thing 19 = .ok (.invokestatic 76, 3) := by decide +kernel
theorem dX12_thing_22 : decode cX12_thing 22 = .ok (.ifCond .eq 16, 3) := by decide +kernel
theorem dX12_thing_25 : decode cX12_thing 25 = .ok (.aload_n 0, 1) := by decide +kernel
theorem dX12_thing_26 : decode cX12_thing 26 = .ok (.getfield 31, 3) := by decide +kernel
theorem dX12_thing_29 : decode cX12_thing 29 = .ok (.iconst 3, 1) := by decide +kernel
theorem dX12_thing_30 : decode cX12_thing 30 = .ok (.iload_n 1, 1) := by decide +kernel
theorem dX12_thing_31 : decode cX12_thing 31 = .ok (.imul, 1) := by decide +kernel
theorem dX12_thing_32 : decode cX12_thing 32 = .ok (.iload_n 2, 1) := by decide +kernel
theorem dX12_thing_33 : decode cX12_thing 33 = .ok (.iadd, 1) := by decide +kernel
theorem dX12_thing_34 : decode cX12_thing 34 = .ok (.iaload, 1) := by decide +kernel
theorem dX12_thing_35 : decode cX12_thing 35 = .ok (.goto 5, 3) := by decide +kernel
theorem dX12_thing_38 : decode cX12_thing 38 = .ok (.bipush (-2), 2) := by decide +kernel
theorem dX12_thing_40 : decode cX12_thing 40 = .ok (.ireturn, 1) := by decide +kernel
theorem dX12_wind_0 : decode cX12_wind 0 = .ok (.aload_n 0, 1) := by decide +kernel
theorem dX12_wind_1 : decode cX12_wind 1 = .ok (.invokevirtual 142, 3) := by decide +kernel
theorem dX12_wind_4 : decode cX12_wind 4 = .ok (.pop, 1) := by decide +kernel
theorem dX12_wind_5 : decode cX12_wind 5 = .ok (.iload_n 1, 1) := by decide +kernel
theorem dX12_wind_6 : decode cX12_wind 6 = .ok (.invokestatic 155, 3) := by decide +kernel
theorem dX12_wind_9 : decode cX12_wind 9 = .ok (.ifCond .eq 12, 3) := by decide +kernel
theorem dX12_wind_12 : decode cX12_wind 12 = .ok (.aload_n 0, 1) := by decide +kernel
theorem dX12_wind_13 : decode cX12_wind 13 = .ok (.getfield 34, 3) := by decide +kernel
theorem dX12_wind_16 : decode cX12_wind 16 = .ok (.iload_n 1, 1) := by decide +kernel
theorem dX12_wind_17 : decode cX12_wind 17 = .ok (.iaload, 1) := by decide +kernel
theorem dX12_wind_18 : decode cX12_wind 18 = .ok (.goto 5, 3) := by decide +kernel
theorem dX12_wind_21 : decode cX12_wind 21 = .ok (.bipush (-2), 2) := by decide +kernel
theorem dX12_wind_23 : decode cX12_wind 23 = .ok (.ireturn, 1) := by decide +kernel
theorem dX12_widens_0 : decode cX12_widens 0 = .ok (.iload_n 1, 1) := by decide +kernel
theorem dX12_widens_1 : decode cX12_widens 1 = .ok (.i2l, 1) := by decide +kernel
theorem dX12_widens_2 : decode cX12_widens 2 = .ok (.lconst 1, 1) := by decide +kernel
theorem dX12_widens_3 : decode cX12_widens 3 = .ok (.ldc2_w 158, 3) := by decide +kernel
theorem dX12_widens_6 : decode cX12_widens 6 = .ok (.invokestatic 76, 3) := by decide +kernel
theorem dX12_widens_9 : decode cX12_widens 9 = .ok (.ifCond .ne 6, 3) := by decide +kernel
theorem dX12_widens_12 : decode cX12_widens 12 = .ok (.bipush (-2), 2) := by decide +kernel
theorem dX12_widens_14 : decode cX12_widens 14 = .ok (.ireturn, 1) := by decide +kernel
theorem dX12_widens_15 : decode cX12_widens 15 = .ok (.aload_n 0, 1) := by decide +kernel
theorem dX12_widens_16 : decode cX12_widens 16 = .ok (.getfield 70, 3) := by decide +kernel
theorem dX12_widens_19 : decode cX12_widens 19 = .ok (.istore_n 2, 1) := by decide +kernel
theorem dX12_widens_20 : decode cX12_widens 20 = .ok (.aload_n 0, 1) := by decide +kernel
theorem dX12_widens_21 : decode cX12_widens 21 = .ok (.iload_n 1, 1) := by decide +kernel
theorem dX12_widens_22 : decode cX12_widens 22 = .ok (.putfield 70, 3) := by decide +kernel
theorem dX12_widens_25 : decode cX12_widens 25 = .ok (.iload_n 2, 1) := by decide +kernel
theorem dX12_widens_26 : decode cX12_widens 26 = .ok (.ireturn, 1) := by decide +kernel
theorem dX12_puts_0 : decode cX12_puts 0 = .ok (.aload_n 0, 1) := by decide +kernel
theorem dX12_puts_1 : decode cX12_puts 1 = .ok (.getfield 37, 3) := by decide +kernel
theorem dX12_puts_4 : decode cX12_puts 4 = .ok (.iconst 5, 1) := by decide +kernel
theorem dX12_puts_5 : decode cX12_puts 5 = .ok (.aload_n 0, 1) := by decide +kernel
theorem dX12_puts_6 : decode cX12_puts 6 = .ok (.getfield 160, 3) := by decide +kernel
theorem dX12_puts_9 : decode cX12_puts 9 = .ok (.imul, 1) := by decide +kernel
theorem dX12_puts_10 : decode cX12_puts 10 = .ok (.iload_n 1, 1) := by decide +kernel
theorem dX12_puts_11 : decode cX12_puts 11 = .ok (.iastore, 1) := by decide +kernel
theorem dX12_puts_12 : decode cX12_puts 12 = .ok (.aload_n 0, 1) := by decide +kernel
theorem dX12_puts_13 : decode cX12_puts 13 = .ok (.getfield 37, 3) := by decide +kernel
theorem dX12_puts_16 : decode cX12_puts 16 = .ok (.iconst 5, 1) := by decide +kernel
theorem dX12_puts_17 : decode cX12_puts 17 = .ok (.aload_n 0, 1) := by decide +kernel
theorem dX12_puts_18 : decode cX12_puts 18 = .ok (.getfield 160, 3) := by decide +kernel
theorem dX12_puts_21 : decode cX12_puts 21 = .ok (.imul, 1) := by decide +kernel
theorem dX12_puts_22 : decode cX12_puts 22 = .ok (.iconst 1, 1) := by decide +kernel
theorem dX12_puts_23 : decode cX12_puts 23 = .ok (.iadd, 1) := by decide +kernel
theorem dX12_puts_24 : decode cX12_puts 24 = .ok (.iload_n 2, 1) := by decide +kernel
theorem dX12_puts_25 : decode cX12_puts 25 = .ok (.iastore, 1) := by decide +kernel
theorem dX12_puts_26 : decode cX12_puts 26 = .ok (.aload_n 0, 1) := by decide +kernel
theorem dX12_puts_27 : decode cX12_puts 27 = .ok (.getfield 37, 3) := by decide +kernel
theorem dX12_puts_30 : decode cX12_puts 30 = .ok (.iconst 5, 1) := by decide +kernel
theorem dX12_puts_31 : decode cX12_puts 31 = .ok (.aload_n 0, 1) := by decide +kernel
theorem dX12_puts_32 : decode cX12_puts 32 = .ok (.getfield 160, 3) := by decide +kernel
theorem dX12_puts_35 : decode cX12_puts 35 = .ok (.imul, 1) := by decide +kernel
theorem dX12_puts_36 : decode cX12_puts 36 = .ok (.iconst 2, 1) := by decide +kernel
theorem dX12_puts_37 : decode cX12_puts 37 = .ok (.iadd, 1) := by decide +kernel
theorem dX12_puts_38 : decode cX12_puts 38 = .ok (.iload_n 3, 1) := by decide +kernel
theorem dX12_puts_39 : decode cX12_puts 39 = .ok (.iastore, 1) := by decide +kernel
theorem dX12_puts_40 : decode cX12_puts 40 = .ok (.aload_n 0, 1) := by decide +kernel
theorem dX12_puts_41 : decode cX12_puts 41 = .ok (.getfield 37, 3) := by decide +kernel
theorem dX12_puts_44 : decode cX12_puts 44 = .ok (.iconst 5, 1) := by decide +kernel
theorem dX12_puts_45 : decode cX12_puts 45 = .ok (.aload_n 0, 1) := by decide +kernel
theorem dX12_puts_46 : decode cX12_puts 46 = .ok (.getfield 160, 3) := by decide +kernel
theorem dX12_puts_49 : decode cX12_puts 49 = .ok (.imul, 1) := by decide +kernel
theorem dX12_puts_50 : decode cX12_puts 50 = .ok (.iconst 3, 1) := by decide +kernel
theorem dX12_puts_51 : decode cX12_puts 51 = .ok (.iadd, 1) := by decide +kernel
theorem dX12_puts_52 : decode cX12_puts 52 = .ok (.iload 4, 2) := by decide +kernel
theorem dX12_puts_54 : decode cX12_puts 54 = .ok (.iastore, 1) := by decide +kernel
theorem dX12_puts_55 : decode cX12_puts 55 = .ok (.aload_n 0, 1) := by decide +kernel
theorem dX12_puts_56 : decode cX12_puts 56 = .ok (.getfield 37, 3) := by decide +kernel
theorem dX12_puts_59 : decode cX12_puts 59 = .ok (.iconst 5, 1) := by decide +kernel
theorem dX12_puts_60 : decode cX12_puts 60 = .ok (.aload_n 0, 1) := by decide +kernel
theorem dX12_puts_61 : decode cX12_puts 61 = .ok (.getfield 160, 3) := by decide +kernel
theorem dX12_puts_64 : decode cX12_puts 64 = .ok (.imul, 1) := by decide +kernel
theorem dX12_puts_65 : decode cX12_puts 65 = .ok (.iconst 4, 1) := by decide +kernel
theorem dX12_puts_66 : decode cX12_puts 66 = .ok (.iadd, 1) := by decide +kernel
theorem dX12_puts_67 : decode cX12_puts 67 = .ok (.iload 5, 2) := by decide +kernel
theorem dX12_puts_69 : decode cX12_puts 69 = .ok (.iastore, 1) := by decide +kernel
theorem dX12_puts_70 : decode cX12_puts 70 = .ok (.aload_n 0, 1) := by decide +kernel
theorem dX12_puts_71 : decode cX12_puts 71 = .ok (.dup, 1) := by decide +kernel
theorem dX12_puts_72 : decode cX12_puts 72 = .ok (.getfield 160, 3) := by decide +kernel
theorem dX12_puts_75 : decode cX12_puts 75 = .ok (.iconst 1, 1) := by decide +kernel
theorem dX12_puts_76 : decode cX12_puts 76 = .ok (.iadd, 1) := by decide +kernel
theorem dX12_puts_77 : decode cX12_puts 77 = .ok (.putfield 160, 3) := by decide +kernel
theorem dX12_puts_80 : decode cX12_puts 80 = .ok (.return_, 1) := by decide +kernel
theorem dX12_blow_0 : decode cX12_blow 0 = .ok (.iload_n 1, 1) := by decide +kernel
theorem dX12_blow_1 : decode cX12_blow 1 = .ok (.invokestatic 155, 3) := by decide +kernel
theorem dX12_blow_4 : decode cX12_blow 4 = .ok (.ifCond .eq 53, 3) := by decide +kernel
theorem dX12_blow_7 : decode cX12_blow 7 = .ok (.iload_n 2, 1) := by decide +kernel
theorem dX12_blow_8 : decode cX12_blow 8 = .ok (.i2l, 1) := by decide +kernel
theorem dX12_blow_9 : decode cX12_blow 9 = .ok (.lconst 0, 1) := by decide +kernel
theorem dX12_blow_10 : decode cX12_blow 10 = .ok (.ldc2_w 150, 3) := by decide +kernel
theorem dX12_blow_13 : decode cX12_blow 13 = .ok (.invokestatic 76, 3) := by decide +kernel
theorem dX12_blow_16 : decode cX12_blow 16 = .ok (.ifCond .eq 41, 3) := by decide +kernel
theorem dX12_blow_19 : decode cX12_blow 19 = .ok (.iload_n 3, 1) := by decide +kernel
theorem dX12_blow_20 : decode cX12_blow 20 = .ok (.i2l, 1) := by decide +kernel
theorem dX12_blow_21 : decode cX12_blow 21 = .ok (.lconst 0, 1) := by decide +kernel
theorem dX12_blow_22 : decode cX12_blow 22 = .ok (.ldc2_w 83, 3) := by decide +kernel
theorem dX12_blow_25 : decode cX12_blow 25 = .ok (.invokestatic 76, 3) := by decide +kernel
theorem dX12_blow_28 : decode cX12_blow 28 = .ok (.ifCond .eq 29, 3) := by decide +kernel
theorem dX12_blow_31 : decode cX12_blow 31 = .ok (.iload 4, 2) := by decide +kernel
theorem dX12_blow_33 : decode cX12_blow 33 = .ok (.i2l, 1) := by decide +kernel
theorem dX12_blow_34 : decode cX12_blow 34 = .ok (.lconst 1, 1) := by decide +kernel
theorem dX12_blow_35 : decode cX12_blow 35 = .ok (.ldc2_w 163, 3) := by decide +kernel
theorem dX12_blow_38 : decode cX12_blow 38 = .ok (.invokestatic 76, 3) := by decide +kernel
theorem dX12_blow_41 : decode cX12_blow 41 = .ok (.ifCond .eq 16, 3) := by decide +kernel
theorem dX12_blow_44 : decode cX12_blow 44 = .ok (.iload 5, 2) := by decide +kernel
theorem dX12_blow_46 : decode cX12_blow 46 = .ok (.i2l, 1) := by decide +kernel
theorem dX12_blow_47 : decode cX12_blow 47 = .ok (.lconst 0, 1) := by decide +kernel
theorem dX12_blow_48 : decode cX12_blow 48 = .ok (.ldc2_w 83, 3) := by decide +kernel
theorem dX12_blow_51 : decode cX12_blow 51 = .ok (.invokestatic 76, 3) := by decide +kernel
theorem dX12_blow_54 : decode cX12_blow 54 = .ok (.ifCond .ne 6, 3) := by decide +kernel
theorem dX12_blow_57 : decode cX12_blow 57 = .ok (.bipush (-2), 2) := by decide +kernel
theorem dX12_blow_59 : decode cX12_blow 59 = .ok (.ireturn, 1) := by decide +kernel
theorem dX12_blow_60 : decode cX12_blow 60 = .ok (.aload_n 0, 1) := by decide +kernel
theorem dX12_blow_61 : decode cX12_blow 61 = .ok (.getfield 160, 3) := by decide +kernel
theorem dX12_blow_64 : decode cX12_blow 64 = .ok (.bipush 8, 2) := by decide +kernel
theorem dX12_blow_66 : decode cX12_blow 66 = .ok (.if_icmp .ne 6, 3) := by decide +kernel
theorem dX12_blow_69 : decode cX12_blow 69 = .ok (.bipush (-4), 2) := by decide +kernel
theorem dX12_blow_71 : decode cX12_blow 71 = .ok (.ireturn, 1) := by decide +kernel
theorem dX12_blow_72 : decode cX12_blow 72 = .ok (.aload_n 0, 1) := by decide +kernel
theorem dX12_blow_73 : decode cX12_blow 73 = .ok (.iload_n 1, 1) := by decide +kernel
theorem dX12_blow_74 : decode cX12_blow 74 = .ok (.iload_n 2, 1) := by decide +kernel
theorem dX12_blow_75 : decode cX12_blow 75 = .ok (.iload_n 3, 1) := by decide +kernel
theorem dX12_blow_76 : decode cX12_blow 76 = .ok (.iload 4, 2) := by decide +kernel
theorem dX12_blow_78 : decode cX12_blow 78 = .ok (.iload 5, 2) := by decide +kernel
theorem dX12_blow_80 : decode cX12_blow 80 = .ok (.invokevirtual 165, 3) := by decide +kernel
theorem dX12_blow_83 : decode cX12_blow 83 = .ok (.aload_n 0, 1) := by decide +kernel
theorem dX12_blow_84 : decode cX12_blow 84 = .ok (.getfield 160, 3) := by decide +kernel
theorem dX12_blow_87 : decode cX12_blow 87 = .ok (.ireturn, 1) := by decide +kernel
theorem dX12_isRing_0 : decode cX12_isRing 0 = .ok (.iload_n 1, 1) := by decide +kernel
theorem dX12_isRing_1 : decode cX12_isRing 1 = .ok (.i2l, 1) := by decide +kernel
theorem dX12_isRing_2 : decode cX12_isRing 2 = .ok (.lconst 0, 1) := by decide +kernel
theorem dX12_isRing_3 : decode cX12_isRing 3 = .ok (.aload_n 0, 1) := by decide +kernel
theorem dX12_isRing_4 : decode cX12_isRing 4 = .ok (.getfield 160, 3) := by decide +kernel
theorem dX12_isRing_7 : decode cX12_isRing 7 = .ok (.iconst 1, 1) := by decide +kernel
theorem dX12_isRing_8 : decode cX12_isRing 8 = .ok (.isub, 1) := by decide +kernel
theorem dX12_isRing_9 : decode cX12_isRing 9 = .ok (.i2l, 1) := by decide +kernel
theorem dX12_isRing_10 : decode cX12_isRing 10 = .ok (.invokestatic 76, 3) := by decide +kernel
theorem dX12_isRing_13 : decode cX12_isRing 13 = .ok (.ireturn, 1) := by decide +kernel
theorem dX12_ring_0 : decode cX12_ring 0 = .ok (.aload_n 0, 1) := by decide +kernel
theorem dX12_ring_1 : decode cX12_ring 1 = .ok (.iload_n 1, 1) := by decide +kernel
theorem dX12_ring_2 : decode cX12_ring 2 = .ok (.invokevirtual 169, 3) := by decide +kernel
theorem dX12_ring_5 : decode cX12_ring 5 = .ok (.ifCond .eq 28, 3) := by decide +kernel
theorem dX12_ring_8 : decode cX12_ring 8 = .ok (.iload_n 2, 1) := by decide +kernel
theorem dX12_ring_9 : decode cX12_ring 9 = .ok (.i2l, 1) := by decide +kernel
theorem dX12_ring_10 : decode cX12_ring 10 = .ok (.lconst 0, 1) := by decide +kernel
theorem dX12_ring_11 : decode cX12_ring 11 = .ok (.ldc2_w 158, 3) := by decide +kernel
theorem dX12_ring_14 : decode cX12_ring 14 = .ok (.invokestatic 76, 3) := by decide +kernel
theorem dX12_ring_17 : decode cX12_ring 17 = .ok (.ifCond .eq 16, 3) := by decide +kernel
theorem dX12_ring_20 : decode cX12_ring 20 = .ok (.aload_n 0, 1) := by decide +kernel
theorem dX12_ring_21 : decode cX12_ring 21 = .ok (.getfield 37, 3) := by decide +kernel
theorem dX12_ring_24 : decode cX12_ring 24 = .ok (.iconst 5, 1) := by decide +kernel
theorem dX12_ring_25 : decode cX12_ring 25 = .ok (.iload_n 1, 1) := by decide +kernel
theorem dX12_ring_26 : decode cX12_ring 26 = .ok (.imul, 1) := by decide +kernel
theorem dX12_ring_27 : decode cX12_ring 27 = .ok (.iload_n 2, 1) := by decide +kernel
theorem dX12_ring_28 : decode cX12_ring 28 = .ok (.iadd, 1) := by decide +kernel
theorem dX12_ring_29 : decode cX12_ring 29 = .ok (.iaload, 1) := by decide +kernel
theorem dX12_ring_30 : decode cX12_ring 30 = .ok (.goto 5, 3) := by decide +kernel
theorem dX12_ring_33 : decode cX12_ring 33 = .ok (.bipush (-2), 2) := by decide +kernel
theorem dX12_ring_35 : decode cX12_ring 35 = .ok (.ireturn, 1) := by decide +kernel
theorem dX12_back_0 : decode cX12_back 0 = .ok (.aload_n 0, 1) := by decide +kernel
theorem dX12_back_1 : decode cX12_back 1 = .ok (.getfield 160, 3) := by decide +kernel
theorem dX12_back_4 : decode cX12_back 4 = .ok (.ifCond .ne 6, 3) := by decide +kernel
theorem dX12_back_7 : decode cX12_back 7 = .ok (.bipush (-3), 2) := by decide +kernel
theorem dX12_back_9 : decode cX12_back 9 = .ok (.ireturn, 1) := by decide +kernel
theorem dX12_back_10 : decode cX12_back 10 = .ok (.aload_n 0, 1) := by decide +kernel
theorem dX12_back_11 : decode cX12_back 11 = .ok (.dup, 1) := by decide +kernel
theorem dX12_back_12 : decode cX12_back 12 = .ok (.getfield 160, 3) := by decide +kernel
theorem dX12_back_15 : decode cX12_back 15 = .ok (.iconst 1, 1) := by decide +kernel
theorem dX12_back_16 : decode cX12_back 16 = .ok (.isub, 1) := by decide +kernel
theorem dX12_back_17 : decode cX12_back 17 = .ok (.putfield 160, 3) := by decide +kernel
theorem dX12_back_20 : decode cX12_back 20 = .ok (.aload_n 0, 1) := by decide +kernel
theorem dX12_back_21 : decode cX12_back 21 = .ok (.getfield 160, 3) := by decide +kernel
theorem dX12_back_24 : decode cX12_back 24 = .ok (.ireturn, 1) := by decide +kernel
theorem dX12_read_0 : decode cX12_read 0 = .ok (.iload_n 1, 1) := by decide +kernel
theorem dX12_read_1 : decode cX12_read 1 = .ok (.invokestatic 85, 3) := by decide +kernel
theorem dX12_read_4 : decode cX12_read 4 = .ok (.ifCond .ne 6, 3) := by decide +kernel
theorem dX12_read_7 : decode cX12_read 7 = .ok (.bipush (-2), 2) := by decide +kernel
theorem dX12_read_9 : decode cX12_read 9 = .ok (.ireturn, 1) := by decide +kernel
theorem dX12_read_10 : decode cX12_read 10 = .ok (.aload_n 0, 1) := by decide +kernel
theorem dX12_read_11 : decode cX12_read 11 = .ok (.getfield 7, 3) := by decide +kernel
theorem dX12_read_14 : decode cX12_read 14 = .ok (.iload_n 1, 1) := by decide +kernel
theorem dX12_read_15 : decode cX12_read 15 = .ok (.iaload, 1) := by decide +kernel
theorem dX12_read_16 : decode cX12_read 16 = .ok (.ifCond .ge 9, 3) := by decide +kernel
theorem dX12_read_19 : decode cX12_read 19 = .ok (.aload_n 0, 1) := by decide +kernel
theorem dX12_read_20 : decode cX12_read 20 = .ok (.iconst 1, 1) := by decide +kernel
theorem dX12_read_21 : decode cX12_read 21 = .ok (.invokevirtual 91, 3) := by decide +kernel
theorem dX12_read_24 : decode cX12_read 24 = .ok (.ireturn, 1) := by decide +kernel
theorem dX12_read_25 : decode cX12_read 25 = .ok (.iconst 0, 1) := by decide +kernel
theorem dX12_read_26 : decode cX12_read 26 = .ok (.istore_n 2, 1) := by decide +kernel
theorem dX12_read_27 : decode cX12_read 27 = .ok (.iconst 1, 1) := by decide +kernel
theorem dX12_read_28 : decode cX12_read 28 = .ok (.istore_n 3, 1) := by decide +kernel
theorem dX12_read_29 : decode cX12_read 29 = .ok (.iload_n 3, 1) := by decide +kernel
theorem dX12_read_30 : decode cX12_read 30 = .ok (.ifCond .eq 98, 3) := by decide +kernel
theorem dX12_read_33 : decode cX12_read 33 = .ok (.iconst 5, 1) := by decide +kernel
theorem dX12_read_34 : decode cX12_read 34 = .ok (.iload_n 2, 1) := by decide +kernel
theorem dX12_read_35 : decode cX12_read 35 = .ok (.imul, 1) := by decide +kernel
theorem dX12_read_36 : decode cX12_read 36 = .ok (.iconst 5, 1) := by decide +kernel
theorem dX12_read_37 : decode cX12_read 37 = .ok (.iadd, 1) := by decide +kernel
theorem dX12_read_38 : decode cX12_read 38 = .ok (.aload_n 0, 1) := by decide +kernel
theorem dX12_read_39 : decode cX12_read 39 = .ok (.getfield 13, 3) := by decide +kernel
theorem dX12_read_42 : decode cX12_read 42 = .ok (.iload_n 1, 1) := by decide +kernel
theorem dX12_read_43 : decode cX12_read 43 = .ok (.iaload, 1) := by decide +kernel
theorem dX12_read_44 : decode cX12_read 44 = .ok (.if_icmp .gt 84, 3) := by decide +kernel
theorem dX12_read_47 : decode cX12_read 47 = .ok (.bipush 60, 2) := by decide +kernel
theorem dX12_read_49 : decode cX12_read 49 = .ok (.iload_n 1, 1) := by decide +kernel
theorem dX12_read_50 : decode cX12_read 50 = .ok (.imul, 1) := by decide +kernel
theorem dX12_read_51 : decode cX12_read 51 = .ok (.iconst 5, 1) := by decide +kernel
theorem dX12_read_52 : decode cX12_read 52 = .ok (.iload_n 2, 1) := by decide +kernel
theorem dX12_read_53 : decode cX12_read 53 = .ok (.imul, 1) := by decide +kernel
theorem dX12_read_54 : decode cX12_read 54 = .ok (.iadd, 1) := by decide +kernel
theorem dX12_read_55 : decode cX12_read 55 = .ok (.istore 4, 2) := by decide +kernel
theorem dX12_read_57 : decode cX12_read 57 = .ok (.aload_n 0, 1) := by decide +kernel
theorem dX12_read_58 : decode cX12_read 58 = .ok (.aload_n 0, 1) := by decide +kernel
theorem dX12_read_59 : decode cX12_read 59 = .ok (.getfield 16, 3) := by decide +kernel
theorem dX12_read_62 : decode cX12_read 62 = .ok (.iload 4, 2) := by decide +kernel
theorem dX12_read_64 : decode cX12_read 64 = .ok (.iaload, 1) := by decide +kernel
theorem dX12_read_65 : decode cX12_read 65 = .ok (.aload_n 0, 1) := by decide +kernel
theorem dX12_read_66 : decode cX12_read 66 = .ok (.getfield 16, 3) := by decide +kernel
theorem dX12_read_69 : decode cX12_read 69 = .ok (.iload 4, 2) := by decide +kernel
theorem dX12_read_71 : decode cX12_read 71 = .ok (.iconst 1, 1) := by decide +kernel
theorem dX12_read_72 : decode cX12_read 72 = .ok (.iadd, 1) := by decide +kernel
theorem dX12_read_73 : decode cX12_read 73 = .ok (.iaload, 1) := by decide +kernel
theorem dX12_read_74 : decode cX12_read 74 = .ok (.aload_n 0, 1) := by decide +kernel
theorem dX12_read_75 : decode cX12_read 75 = .ok (.getfield 16, 3) := by decide +kernel
theorem dX12_read_78 : decode cX12_read 78 = .ok (.iload 4, 2) := by decide +kernel
theorem dX12_read_80 : decode cX12_read 80 = .ok (.iconst 2, 1) := by decide +kernel
theorem dX12_read_81 : decode cX12_read 81 = .ok (.iadd, 1) := by decide +kernel
theorem dX12_read_82 : decode cX12_read 82 = .ok (.iaload, 1) := by decide +kernel
theorem dX12_read_83 : decode cX12_read 83 = .ok (.aload_n 0, 1) := by decide +kernel
theorem dX12_read_84 : decode cX12_read 84 = .ok (.getfield 16, 3) := by decide +kernel
theorem dX12_read_87 : decode cX12_read 87 = .ok (.iload 4, 2) := by decide +kernel
theorem dX12_read_89 : decode cX12_read 89 = .ok (.iconst 3, 1) := by decide +kernel
theorem dX12_read_90 : decode cX12_read 90 = .ok (.iadd, 1) := by decide +kernel
theorem dX12_read_91 : decode cX12_read 91 = .ok (.iaload, 1) := by decide +kernel
theorem dX12_read_92 : decode cX12_read 92 = .ok (.aload_n 0, 1) := by decide +kernel
theorem dX12_read_93 : decode cX12_read 93 = .ok (.getfield 16, 3) := by decide +kernel
theorem dX12_read_96 : decode cX12_read 96 = .ok (.iload 4, 2) := by decide +kernel
theorem dX12_read_98 : decode cX12_read 98 = .ok (.iconst 4, 1) := by decide +kernel
theorem dX12_read_99 : decode cX12_read 99 = .ok (.iadd, 1) := by decide +kernel
theorem dX12_read_100 : decode cX12_read 100 = .ok (.iaload, 1) := by decide +kernel
theorem dX12_read_101 : decode cX12_read 101 = .ok (.invokevirtual 172, 3) := by decide +kernel
theorem dX12_read_104 : decode cX12_read 104 = .ok (.ifCond .lt 7, 3) := by decide +kernel
theorem dX12_read_107 : decode cX12_read 107 = .ok (.iconst 1, 1) := by decide +kernel
theorem dX12_read_108 : decode cX12_read 108 = .ok (.goto 4, 3) := by decide +kernel
theorem dX12_read_111 : decode cX12_read 111 = .ok (.iconst 0, 1) := by decide +kernel
theorem dX12_read_112 : decode cX12_read 112 = .ok (.istore_n 3, 1) := by decide +kernel
theorem dX12_read_113 : decode cX12_read 113 = .ok (.iload_n 2, 1) := by decide +kernel
theorem dX12_read_114 : decode cX12_read 114 = .ok (.iload_n 3, 1) := by decide +kernel
theorem dX12_read_115 : decode cX12_read 115 = .ok (.ifCond .eq 7, 3) := by decide +kernel
theorem dX12_read_118 : decode cX12_read 118 = .ok (.iconst 1, 1) := by decide +kernel
theorem dX12_read_119 : decode cX12_read 119 = .ok (.goto 4, 3) := by decide +kernel
theorem dX12_read_122 : decode cX12_read 122 = .ok (.iconst 0, 1) := by decide +kernel
theorem dX12_read_123 : decode cX12_read 123 = .ok (.iadd, 1) := by decide +kernel
theorem dX12_read_124 : decode cX12_read 124 = .ok (.istore_n 2, 1) := by decide +kernel
theorem dX12_read_125 : decode cX12_read 125 = .ok (.goto (-96), 3) := by decide +kernel
theorem dX12_read_128 : decode cX12_read 128 = .ok (.iload_n 2, 1) := by decide +kernel
theorem dX12_read_129 : decode cX12_read 129 = .ok (.ireturn, 1) := by decide +kernel
theorem dX12_beside_0 : decode cX12_beside 0 = .ok (.iconst (-1), 1) := by decide +kernel
theorem dX12_beside_1 : decode cX12_beside 1 = .ok (.istore_n 3, 1) := by decide +kernel
theorem dX12_beside_2 : decode cX12_beside 2 = .ok (.iload_n 2, 1) := by decide +kernel
theorem dX12_beside_3 : decode cX12_beside 3 = .ok (.ifCond .ne 25, 3) := by decide +kernel
theorem dX12_beside_6 : decode cX12_beside 6 = .ok (.iload_n 1, 1) := by decide +kernel
theorem dX12_beside_7 : decode cX12_beside 7 = .ok (.aload_n 0, 1) := by decide +kernel
theorem dX12_beside_8 : decode cX12_beside 8 = .ok (.getfield 112, 3) := by decide +kernel
theorem dX12_beside_11 : decode cX12_beside 11 = .ok (.if_icmp .lt 12, 3) := by decide +kernel
theorem dX12_beside_14 : decode cX12_beside 14 = .ok (.iload_n 1, 1) := by decide +kernel
theorem dX12_beside_15 : decode cX12_beside 15 = .ok (.aload_n 0, 1) := by decide +kernel
theorem dX12_beside_16 : decode cX12_beside 16 = .ok (.getfield 112, 3) := by decide +kernel
theorem dX12_beside_19 : decode cX12_beside 19 = .ok (.isub, 1) := by decide +kernel
theorem dX12_beside_20 : decode cX12_beside 20 = .ok (.goto 4, 3) := by decide +kernel
theorem dX12_beside_23 : decode cX12_beside 23 = .ok (.iconst (-1), 1) := by decide +kernel
theorem dX12_beside_24 : decode cX12_beside 24 = .ok (.istore_n 3, 1) := by decide +kernel
theorem dX12_beside_25 : decode cX12_beside 25 = .ok (.goto 79, 3) := by decide +kernel
theorem dX12_beside_28 : decode cX12_beside 28 = .ok (.iload_n 2, 1) := by decide +kernel
theorem dX12_beside_29 : decode cX12_beside 29 = .ok (.iconst 1, 1) := by decide +kernel
theorem dX12_beside_30 : decode cX12_beside 30 = .ok (.if_icmp .ne 25, 3) := by decide +kernel
theorem dX12_beside_33 : decode cX12_beside 33 = .ok (.iload_n 1, 1) := by decide +kernel
theorem dX12_beside_34 : decode cX12_beside 34 = .ok (.iconst 1, 1) := by decide +kernel
theorem dX12_beside_35 : decode cX12_beside 35 = .ok (.iadd, 1) := by decide +kernel
theorem dX12_beside_36 : decode cX12_beside 36 = .ok (.aload_n 0, 1) := by decide +kernel
theorem dX12_beside_37 : decode cX12_beside 37 = .ok (.getfield 112, 3) := by decide +kernel
theorem dX12_beside_40 : decode cX12_beside 40 = .ok (.irem, 1) := by decide +kernel
theorem dX12_beside_41 : decode cX12_beside 41 = .ok (.ifCond .le 9, 3) := by decide +kernel
theorem dX12_beside_44 : decode cX12_beside 44 = .ok (.iload_n 1, 1) := by decide +kernel
theorem dX12_beside_45 : decode cX12_beside 45 = .ok (.iconst 1, 1) := by decide +kernel
theorem dX12_beside_46 : decode cX12_beside 46 = .ok (.iadd, 1) := by decide +kernel
theorem dX12_beside_47 : decode cX12_beside 47 = .ok (.goto 4, 3) := by decide +kernel
theorem dX12_beside_50 : decode cX12_beside 50 = .ok (.iconst (-1), 1) := by decide +kernel
theorem dX12_beside_51 : decode cX12_beside 51 = .ok (.istore_n 3, 1) := by decide +kernel
theorem dX12_beside_52 : decode cX12_beside 52 = .ok (.goto 52, 3) := by decide +kernel
theorem dX12_beside_55 : decode cX12_beside 55 = .ok (.iload_n 2, 1) := by decide +kernel
theorem dX12_beside_56 : decode cX12_beside 56 = .ok (.iconst 2, 1) := by decide +kernel
theorem dX12_beside_57 : decode cX12_beside 57 = .ok (.if_icmp .ne 30, 3) := by decide +kernel
theorem dX12_beside_60 : decode cX12_beside 60 = .ok (.iload_n 1, 1) := by decide +kernel
theorem dX12_beside_61 : decode cX12_beside 61 = .ok (.aload_n 0, 1) := by decide +kernel
theorem dX12_beside_62 : decode cX12_beside 62 = .ok (.getfield 112, 3) := by decide +kernel
theorem dX12_beside_65 : decode cX12_beside 65 = .ok (.iadd, 1) := by decide +kernel
theorem dX12_beside_66 : decode cX12_beside 66 = .ok (.aload_n 0, 1) := by decide +kernel
theorem dX12_beside_67 : decode cX12_beside 67 = .ok (.getfield 109, 3) := by decide +kernel
theorem dX12_beside_70 : decode cX12_beside 70 = .ok (.if_icmp .ge 12, 3) := by decide +kernel
theorem dX12_beside_73 : decode cX12_beside 73 = .ok (.iload_n 1, 1) := by decide +kernel
theorem dX12_beside_74 : decode cX12_beside 74 = .ok (.aload_n 0, 1) := by decide +kernel
theorem dX12_beside_75 : decode cX12_beside 75 = .ok (.getfield 112, 3) := by decide +kernel
theorem dX12_beside_78 : decode cX12_beside 78 = .ok (.iadd, 1) := by decide +kernel
theorem dX12_beside_79 : decode cX12_beside 79 = .ok (.goto 4, 3) := by decide +kernel
theorem dX12_beside_82 : decode cX12_beside 82 = .ok (.iconst (-1), 1) := by decide +kernel
theorem dX12_beside_83 : decode cX12_beside 83 = .ok (.istore_n 3, 1) := by decide +kernel
theorem dX12_beside_84 : decode cX12_beside 84 = .ok (.goto 20, 3) := by decide +kernel
theorem dX12_beside_87 : decode cX12_beside 87 = .ok (.iload_n 1, 1) := by decide +kernel
theorem dX12_beside_88 : decode cX12_beside 88 = .ok (.aload_n 0, 1) := by decide +kernel
theorem dX12_beside_89 : decode cX12_beside 89 = .ok (.getfield 112, 3) := by decide +kernel
theorem dX12_beside_92 : decode cX12_beside 92 = .ok (.irem, 1) := by decide +kernel
theorem dX12_beside_93 : decode cX12_beside 93 = .ok (.ifCond .le 9, 3) := by decide +kernel
theorem dX12_beside_96 : decode cX12_beside 96 = .ok (.iload_n 1, 1) := by decide +kernel
theorem dX12_beside_97 : decode cX12_beside 97 = .ok (.iconst 1, 1) := by decide +kernel
theorem dX12_beside_98 : decode cX12_beside 98 = .ok (.isub, 1) := by decide +kernel
theorem dX12_beside_99 : decode cX12_beside 99 = .ok (.goto 4, 3) := by decide +kernel
theorem dX12_beside_102 : decode cX12_beside 102 = .ok (.iconst (-1), 1) := by decide +kernel
theorem dX12_beside_103 : decode cX12_beside 103 = .ok (.istore_n 3, 1) := by decide +kernel
theorem dX12_beside_104 : decode cX12_beside 104 = .ok (.iload_n 3, 1) := by decide +kernel
theorem dX12_beside_105 : decode cX12_beside 105 = .ok (.iconst (-1), 1) := by decide +kernel
theorem dX12_beside_106 : decode cX12_beside 106 = .ok (.if_icmp .eq 17, 3) := by decide +kernel
theorem dX12_beside_109 : decode cX12_beside 109 = .ok (.aload_n 0, 1) := by decide +kernel
theorem dX12_beside_110 : decode cX12_beside 110 = .ok (.getfield 28, 3) := by decide +kernel
theorem dX12_beside_113 : decode cX12_beside 113 = .ok (.iload_n 3, 1) := by decide +kernel
theorem dX12_beside_114 : decode cX12_beside 114 = .ok (.iaload, 1) := by decide +kernel
theorem dX12_beside_115 : decode cX12_beside 115 = .ok (.iconst 1, 1) := by decide +kernel
theorem dX12_beside_116 : decode cX12_beside 116 = .ok (.if_icmp .ne 7, 3) := by decide +kernel
theorem dX12_beside_119 : decode cX12_beside 119 = .ok (.iconst (-1), 1) := by decide +kernel
theorem dX12_beside_120 : decode cX12_beside 120 = .ok (.goto 4, 3) := by decide +kernel
theorem dX12_beside_123 : decode cX12_beside 123 = .ok (.iload_n 3, 1) := by decide +kernel
theorem dX12_beside_124 : decode cX12_beside 124 = .ok (.ireturn, 1) := by decide +kernel
theorem dX12_goes_0 : decode cX12_goes 0 = .ok (.aload_n 0, 1) := by decide +kernel
theorem dX12_goes_1 : decode cX12_goes 1 = .ok (.aload_n 0, 1) := by decide +kernel
theorem dX12_goes_2 : decode cX12_goes 2 = .ok (.getfield 43, 3) := by decide +kernel
theorem dX12_goes_5 : decode cX12_goes 5 = .ok (.iload_n 1, 1) := by decide +kernel
theorem dX12_goes_6 : decode cX12_goes 6 = .ok (.iaload, 1) := by decide +kernel
theorem dX12_goes_7 : decode cX12_goes 7 = .ok (.iload_n 2, 1) := by decide +kernel
theorem dX12_goes_8 : decode cX12_goes 8 = .ok (.invokevirtual 176, 3) := by decide +kernel
theorem dX12_goes_11 : decode cX12_goes 11 = .ok (.istore_n 3, 1) := by decide +kernel
theorem dX12_goes_12 : decode cX12_goes 12 = .ok (.iload_n 3, 1) := by decide +kernel
theorem dX12_goes_13 : decode cX12_goes 13 = .ok (.iconst (-1), 1) := by decide +kernel
theorem dX12_goes_14 : decode cX12_goes 14 = .ok (.if_icmp .ne 13, 3) := by decide +kernel
theorem dX12_goes_17 : decode cX12_goes 17 = .ok (.aload_n 0, 1) := by decide +kernel
theorem dX12_goes_18 : decode cX12_goes 18 = .ok (.getfield 40, 3) := by decide +kernel
theorem dX12_goes_21 : decode cX12_goes 21 = .ok (.iload_n 1, 1) := by decide +kernel
theorem dX12_goes_22 : decode cX12_goes 22 = .ok (.iconst 3, 1) := by decide +kernel
theorem dX12_goes_23 : decode cX12_goes 23 = .ok (.iastore, 1) := by decide +kernel
theorem dX12_goes_24 : decode cX12_goes 24 = .ok (.goto 10, 3) := by decide +kernel
theorem dX12_goes_27 : decode cX12_goes 27 = .ok (.aload_n 0, 1) := by decide +kernel
theorem dX12_goes_28 : decode cX12_goes 28 = .ok (.getfield 43, 3) := by decide +kernel
theorem dX12_goes_31 : decode cX12_goes 31 = .ok (.iload_n 1, 1) := by decide +kernel
theorem dX12_goes_32 : decode cX12_goes 32 = .ok (.iload_n 3, 1) := by decide +kernel
theorem dX12_goes_33 : decode cX12_goes 33 = .ok (.iastore, 1) := by decide +kernel
theorem dX12_goes_34 : decode cX12_goes 34 = .ok (.return_, 1) := by decide +kernel
theorem dX12_moves_0 : decode cX12_moves 0 = .ok (.aload_n 0, 1) := by decide +kernel
theorem dX12_moves_1 : decode cX12_moves 1 = .ok (.getfield 49, 3) := by decide +kernel
theorem dX12_moves_4 : decode cX12_moves 4 = .ok (.iload_n 1, 1) := by decide +kernel
theorem dX12_moves_5 : decode cX12_moves 5 = .ok (.iaload, 1) := by decide +kernel
theorem dX12_moves_6 : decode cX12_moves 6 = .ok (.ifCond .le 28, 3) := by decide +kernel
theorem dX12_moves_9 : decode cX12_moves 9 = .ok (.aload_n 0, 1) := by decide +kernel
theorem dX12_moves_10 : decode cX12_moves 10 = .ok (.getfield 49, 3) := by decide +kernel
theorem dX12_moves_13 : decode cX12_moves 13 = .ok (.iload_n 1, 1) := by decide +kernel
theorem dX12_moves_14 : decode cX12_moves 14 = .ok (.dup2, 1) := by decide +kernel
theorem dX12_moves_15 : decode cX12_moves 15 = .ok (.iaload, 1) := by decide +kernel
theorem dX12_moves_16 : decode cX12_moves 16 = .ok (.iconst 1, 1) := by decide +kernel
theorem dX12_moves_17 : decode cX12_moves 17 = .ok (.isub, 1) := by decide +kernel
theorem dX12_moves_18 : decode cX12_moves 18 = .ok (.iastore, 1) := by decide +kernel
theorem dX12_moves_19 : decode cX12_moves 19 = .ok (.aload_n 0, 1) := by decide +kernel
theorem dX12_moves_20 : decode cX12_moves 20 = .ok (.iload_n 1, 1) := by decide +kernel
theorem dX12_moves_21 : decode cX12_moves 21 = .ok (.aload_n 0, 1) := by decide +kernel
theorem dX12_moves_22 : decode cX12_moves 22 = .ok (.getfield 37, 3) := by decide +kernel
theorem dX12_moves_25 : decode cX12_moves 25 = .ok (.iconst 5, 1) := by decide +kernel
theorem dX12_moves_26 : decode cX12_moves 26 = .ok (.iload_n 1, 1) := by decide +kernel
theorem dX12_moves_27 : decode cX12_moves 27 = .ok (.imul, 1) := by decide +kernel
theorem dX12_moves_28 : decode cX12_moves 28 = .ok (.iconst 2, 1) := by decide +kernel
theorem dX12_moves_29 : decode cX12_moves 29 = .ok (.iadd, 1) := by decide +kernel
theorem dX12_moves_30 : decode cX12_moves 30 = .ok (.iaload, 1) := by decide +kernel
theorem dX12_moves_31 : decode cX12_moves 31 = .ok (.invokevirtual 179, 3) := by decide +kernel
theorem dX12_moves_34 : decode cX12_moves 34 = .ok (.aload_n 0, 1) := by decide +kernel
theorem dX12_moves_35 : decode cX12_moves 35 = .ok (.getfield 183, 3) := by decide +kernel
theorem dX12_moves_38 : decode cX12_moves 38 = .ok (.iload_n 2, 1) := by decide +kernel
theorem dX12_moves_39 : decode cX12_moves 39 = .ok (.invokestatic 186, 3) := by decide +kernel
theorem dX12_moves_42 : decode cX12_moves 42 = .ok (.ifCond .eq 7, 3) := by decide +kernel
theorem dX12_moves_45 : decode cX12_moves 45 = .ok (.iconst (-1), 1) := by decide +kernel
theorem dX12_moves_46 : decode cX12_moves 46 = .ok (.goto 9, 3) := by decide +kernel
theorem dX12_moves_49 : decode cX12_moves 49 = .ok (.aload_n 0, 1) := by decide +kernel
theorem dX12_moves_50 : decode cX12_moves 50 = .ok (.getfield 34, 3) := by decide +kernel
theorem dX12_moves_53 : decode cX12_moves 53 = .ok (.iload_n 2, 1) := by decide +kernel
theorem dX12_moves_54 : decode cX12_moves 54 = .ok (.iaload, 1) := by decide +kernel
theorem dX12_moves_55 : decode cX12_moves 55 = .ok (.istore_n 3, 1) := by decide +kernel
theorem dX12_moves_56 : decode cX12_moves 56 = .ok (.aload_n 0, 1) := by decide +kernel
theorem dX12_moves_57 : decode cX12_moves 57 = .ok (.getfield 40, 3) := by decide +kernel
theorem dX12_moves_60 : decode cX12_moves 60 = .ok (.iload_n 1, 1) := by decide +kernel
theorem dX12_moves_61 : decode cX12_moves 61 = .ok (.iaload, 1) := by decide +kernel
theorem dX12_moves_62 : decode cX12_moves 62 = .ok (.iconst 1, 1) := by decide +kernel
theorem dX12_moves_63 : decode cX12_moves 63 = .ok (.if_icmp .ne 14, 3) := by decide +kernel
theorem dX12_moves_66 : decode cX12_moves 66 = .ok (.iload_n 3, 1) := by decide +kernel
theorem dX12_moves_67 : decode cX12_moves 67 = .ok (.iconst (-1), 1) := by decide +kernel
theorem dX12_moves_68 : decode cX12_moves 68 = .ok (.if_icmp .eq 9, 3) := by decide +kernel
theorem dX12_moves_71 : decode cX12_moves 71 = .ok (.aload_n 0, 1) := by decide +kernel
theorem dX12_moves_72 : decode cX12_moves 72 = .ok (.iload_n 1, 1) := by decide +kernel
theorem dX12_moves_73 : decode cX12_moves 73 = .ok (.iload_n 3, 1) := by decide +kernel
theorem dX12_moves_74 : decode cX12_moves 74 = .ok (.invokevirtual 179, 3) := by decide +kernel
theorem dX12_moves_77 : decode cX12_moves 77 = .ok (.return_, 1) := by decide +kernel
theorem dX12_isBlown_0 : decode cX12_isBlown 0 = .ok (.aload_n 0, 1) := by decide +kernel
theorem dX12_isBlown_1 : decode cX12_isBlown 1 = .ok (.getfield 37, 3) := by decide +kernel
theorem dX12_isBlown_4 : decode cX12_isBlown 4 = .ok (.iconst 5, 1) := by decide +kernel
theorem dX12_isBlown_5 : decode cX12_isBlown 5 = .ok (.iload_n 1, 1) := by decide +kernel
theorem dX12_isBlown_6 : decode cX12_isBlown 6 = .ok (.imul, 1) := by decide +kernel
theorem dX12_isBlown_7 : decode cX12_isBlown 7 = .ok (.iconst 1, 1) := by decide +kernel
theorem dX12_isBlown_8 : decode cX12_isBlown 8 = .ok (.iadd, 1) := by decide +kernel
theorem dX12_isBlown_9 : decode cX12_isBlown 9 = .ok (.iaload, 1) := by decide +kernel
theorem dX12_isBlown_10 : decode cX12_isBlown 10 = .ok (.istore_n 2, 1) := by decide +kernel
theorem dX12_isBlown_11 : decode cX12_isBlown 11 = .ok (.aload_n 0, 1) := by decide +kernel
theorem dX12_isBlown_12 : decode cX12_isBlown 12 = .ok (.getfield 43, 3) := by decide +kernel
theorem dX12_isBlown_15 : decode cX12_isBlown 15 = .ok (.iload_n 1, 1) := by decide +kernel
theorem dX12_isBlown_16 : decode cX12_isBlown 16 = .ok (.aload_n 0, 1) := by decide +kernel
theorem dX12_isBlown_17 : decode cX12_isBlown 17 = .ok (.iload_n 2, 1) := by decide +kernel
theorem dX12_isBlown_18 : decode cX12_isBlown 18 = .ok (.invokevirtual 190, 3) := by decide +kernel
theorem dX12_isBlown_21 : decode cX12_isBlown 21 = .ok (.ifCond .eq 7, 3) := by decide +kernel
theorem dX12_isBlown_24 : decode cX12_isBlown 24 = .ok (.iload_n 2, 1) := by decide +kernel
theorem dX12_isBlown_25 : decode cX12_isBlown 25 = .ok (.goto 4, 3) := by decide +kernel
theorem dX12_isBlown_28 : decode cX12_isBlown 28 = .ok (.iconst (-1), 1) := by decide +kernel
theorem dX12_isBlown_29 : decode cX12_isBlown 29 = .ok (.iastore, 1) := by decide +kernel
theorem dX12_isBlown_30 : decode cX12_isBlown 30 = .ok (.aload_n 0, 1) := by decide +kernel
theorem dX12_isBlown_31 : decode cX12_isBlown 31 = .ok (.getfield 40, 3) := by decide +kernel
theorem dX12_isBlown_34 : decode cX12_isBlown 34 = .ok (.iload_n 1, 1) := by decide +kernel
theorem dX12_isBlown_35 : decode cX12_isBlown 35 = .ok (.aload_n 0, 1) := by decide +kernel
theorem dX12_isBlown_36 : decode cX12_isBlown 36 = .ok (.iload_n 2, 1) := by decide +kernel
theorem dX12_isBlown_37 : decode cX12_isBlown 37 = .ok (.invokevirtual 190, 3) := by decide +kernel
theorem dX12_isBlown_40 : decode cX12_isBlown 40 = .ok (.ifCond .eq 16, 3) := by decide +kernel
theorem dX12_isBlown_43 : decode cX12_isBlown 43 = .ok (.aload_n 0, 1) := by decide +kernel
theorem dX12_isBlown_44 : decode cX12_isBlown 44 = .ok (.getfield 28, 3) := by decide +kernel
theorem dX12_isBlown_47 : decode cX12_isBlown 47 = .ok (.iload_n 2, 1) := by decide +kernel
theorem dX12_isBlown_48 : decode cX12_isBlown 48 = .ok (.iaload, 1) := by decide +kernel
theorem dX12_isBlown_49 : decode cX12_isBlown 49 = .ok (.ifCond .ne 7, 3) := by decide +kernel
theorem dX12_isBlown_52 : decode cX12_isBlown 52 = .ok (.iconst 1, 1) := by decide +kernel
theorem dX12_isBlown_53 : decode cX12_isBlown 53 = .ok (.goto 4, 3) := by decide +kernel
theorem dX12_isBlown_56 : decode cX12_isBlown 56 = .ok (.iconst 3, 1) := by decide +kernel
theorem dX12_isBlown_57 : decode cX12_isBlown 57 = .ok (.iastore, 1) := by decide +kernel
theorem dX12_isBlown_58 : decode cX12_isBlown 58 = .ok (.aload_n 0, 1) := by decide +kernel
theorem dX12_isBlown_59 : decode cX12_isBlown 59 = .ok (.getfield 46, 3) := by decide +kernel
theorem dX12_isBlown_62 : decode cX12_isBlown 62 = .ok (.iload_n 1, 1) := by decide +kernel
theorem dX12_isBlown_63 : decode cX12_isBlown 63 = .ok (.iconst 1, 1) := by decide +kernel
theorem dX12_isBlown_64 : decode cX12_isBlown 64 = .ok (.iastore, 1) := by decide +kernel
theorem dX12_isBlown_65 : decode cX12_isBlown 65 = .ok (.return_, 1) := by decide +kernel
theorem dX12_grows_0 : decode cX12_grows 0 = .ok (.aload_n 0, 1) := by decide +kernel
theorem dX12_grows_1 : decode cX12_grows 1 = .ok (.getfield 46, 3) := by decide +kernel
theorem dX12_grows_4 : decode cX12_grows 4 = .ok (.iload_n 1, 1) := by decide +kernel
theorem dX12_grows_5 : decode cX12_grows 5 = .ok (.iconst 1, 1) := by decide +kernel
theorem dX12_grows_6 : decode cX12_grows 6 = .ok (.iload_n 2, 1) := by decide +kernel
theorem dX12_grows_7 : decode cX12_grows 7 = .ok (.aload_n 0, 1) := by decide +kernel
theorem dX12_grows_8 : decode cX12_grows 8 = .ok (.getfield 37, 3) := by decide +kernel
theorem dX12_grows_11 : decode cX12_grows 11 = .ok (.iconst 5, 1) := by decide +kernel
theorem dX12_grows_12 : decode cX12_grows 12 = .ok (.iload_n 1, 1) := by decide +kernel
theorem dX12_grows_13 : decode cX12_grows 13 = .ok (.imul, 1) := by decide +kernel
theorem dX12_grows_14 : decode cX12_grows 14 = .ok (.iaload, 1) := by decide +kernel
theorem dX12_grows_15 : decode cX12_grows 15 = .ok (.isub, 1) := by decide +kernel
theorem dX12_grows_16 : decode cX12_grows 16 = .ok (.aload_n 0, 1) := by decide +kernel
theorem dX12_grows_17 : decode cX12_grows 17 = .ok (.getfield 70, 3) := by decide +kernel
theorem dX12_grows_20 : decode cX12_grows 20 = .ok (.idiv, 1) := by decide +kernel
theorem dX12_grows_21 : decode cX12_grows 21 = .ok (.iadd, 1) := by decide +kernel
theorem dX12_grows_22 : decode cX12_grows 22 = .ok (.iastore, 1) := by decide +kernel
theorem dX12_grows_23 : decode cX12_grows 23 = .ok (.aload_n 0, 1) := by decide +kernel
theorem dX12_grows_24 : decode cX12_grows 24 = .ok (.getfield 40, 3) := by decide +kernel
theorem dX12_grows_27 : decode cX12_grows 27 = .ok (.iload_n 1, 1) := by decide +kernel
theorem dX12_grows_28 : decode cX12_grows 28 = .ok (.aload_n 0, 1) := by decide +kernel
theorem dX12_grows_29 : decode cX12_grows 29 = .ok (.getfield 46, 3) := by decide +kernel
theorem dX12_grows_32 : decode cX12_grows 32 = .ok (.iload_n 1, 1) := by decide +kernel
theorem dX12_grows_33 : decode cX12_grows 33 = .ok (.iaload, 1) := by decide +kernel
theorem dX12_grows_34 : decode cX12_grows 34 = .ok (.bipush 9, 2) := by decide +kernel
theorem dX12_grows_36 : decode cX12_grows 36 = .ok (.if_icmp .le 7, 3) := by decide +kernel
theorem dX12_grows_39 : decode cX12_grows 39 = .ok (.iconst 4, 1) := by decide +kernel
theorem dX12_grows_40 : decode cX12_grows 40 = .ok (.goto 4, 3) := by decide +kernel
theorem dX12_grows_43 : decode cX12_grows 43 = .ok (.iconst 1, 1) := by decide +kernel
theorem dX12_grows_44 : decode cX12_grows 44 = .ok (.iastore, 1) := by decide +kernel
theorem dX12_grows_45 : decode cX12_grows 45 = .ok (.return_, 1) := by decide +kernel
theorem dX12_meet_0 : decode cX12_meet 0 = .ok (.iconst 0, 1) := by decide +kernel
theorem dX12_meet_1 : decode cX12_meet 1 = .ok (.istore_n 2, 1) := by decide +kernel
theorem dX12_meet_2 : decode cX12_meet 2 = .ok (.iconst 0, 1) := by decide +kernel
theorem dX12_meet_3 : decode cX12_meet 3 = .ok (.istore_n 3, 1) := by decide +kernel
theorem dX12_meet_4 : decode cX12_meet 4 = .ok (.iload_n 3, 1) := by decide +kernel
theorem dX12_meet_5 : decode cX12_meet 5 = .ok (.aload_n 0, 1) := by decide +kernel
theorem dX12_meet_6 : decode cX12_meet 6 = .ok (.getfield 160, 3) := by decide +kernel
theorem dX12_meet_9 : decode cX12_meet 9 = .ok (.if_icmp .ge 186, 3) := by decide +kernel
theorem dX12_meet_12 : decode cX12_meet 12 = .ok (.iconst 0, 1) := by decide +kernel
theorem dX12_meet_13 : decode cX12_meet 13 = .ok (.istore 4, 2) := by decide +kernel
theorem dX12_meet_15 : decode cX12_meet 15 = .ok (.iload 4, 2) := by decide +kernel
theorem dX12_meet_17 : decode cX12_meet 17 = .ok (.aload_n 0, 1) := by decide +kernel
theorem dX12_meet_18 : decode cX12_meet 18 = .ok (.getfield 160, 3) := by decide +kernel
theorem dX12_meet_21 : decode cX12_meet 21 = .ok (.if_icmp .ge 168, 3) := by decide +kernel
theorem dX12_meet_24 : decode cX12_meet 24 = .ok (.iload_n 3, 1) := by decide +kernel
theorem dX12_meet_25 : decode cX12_meet 25 = .ok (.iload 4, 2) := by decide +kernel
theorem dX12_meet_27 : decode cX12_meet 27 = .ok (.if_icmp .eq 44, 3) := by decide +kernel
theorem dX12_meet_30 : decode cX12_meet 30 = .ok (.aload_n 0, 1) := by decide +kernel
theorem dX12_meet_31 : decode cX12_meet 31 = .ok (.getfield 40, 3) := by decide +kernel
theorem dX12_meet_34 : decode cX12_meet 34 = .ok (.iload_n 3, 1) := by decide +kernel
theorem dX12_meet_35 : decode cX12_meet 35 = .ok (.iaload, 1) := by decide +kernel
theorem dX12_meet_36 : decode cX12_meet 36 = .ok (.iconst 1, 1) := by decide +kernel
theorem dX12_meet_37 : decode cX12_meet 37 = .ok (.if_icmp .ne 34, 3) := by decide +kernel
theorem dX12_meet_40 : decode cX12_meet 40 = .ok (.aload_n 0, 1) := by decide +kernel
theorem dX12_meet_41 : decode cX12_meet 41 = .ok (.getfield 40, 3) := by decide +kernel
theorem dX12_meet_44 : decode cX12_meet 44 = .ok (.iload 4, 2) := by decide +kernel
theorem dX12_meet_46 : decode cX12_meet 46 = .ok (.iaload, 1) := by decide +kernel
theorem dX12_meet_47 : decode cX12_meet 47 = .ok (.iconst 1, 1) := by decide +kernel
theorem dX12_meet_48 : decode cX12_meet 48 = .ok (.if_icmp .ne 23, 3) := by decide +kernel
theorem dX12_meet_51 : decode cX12_meet 51 = .ok (.aload_n 0, 1) := by decide +kernel
theorem dX12_meet_52 : decode cX12_meet 52 = .ok (.getfield 43, 3) := by decide +kernel
theorem dX12_meet_55 : decode cX12_meet 55 = .ok (.iload_n 3, 1) := by decide +kernel
theorem dX12_meet_56 : decode cX12_meet 56 = .ok (.iaload, 1) := by decide +kernel
theorem dX12_meet_57 : decode cX12_meet 57 = .ok (.aload_n 0, 1) := by decide +kernel
theorem dX12_meet_58 : decode cX12_meet 58 = .ok (.getfield 43, 3) := by decide +kernel
theorem dX12_meet_61 : decode cX12_meet 61 = .ok (.iload 4, 2) := by decide +kernel
theorem dX12_meet_63 : decode cX12_meet 63 = .ok (.iaload, 1) := by decide +kernel
theorem dX12_meet_64 : decode cX12_meet 64 = .ok (.if_icmp .ne 7, 3) := by decide +kernel
theorem dX12_meet_67 : decode cX12_meet 67 = .ok (.iconst 1, 1) := by decide +kernel
theorem dX12_meet_68 : decode cX12_meet 68 = .ok (.goto 4, 3) := by decide +kernel
theorem dX12_meet_71 : decode cX12_meet 71 = .ok (.iconst 0, 1) := by decide +kernel
theorem dX12_meet_72 : decode cX12_meet 72 = .ok (.istore 5, 2) := by decide +kernel
theorem dX12_meet_74 : decode cX12_meet 74 = .ok (.iload 5, 2) := by decide +kernel
theorem dX12_meet_76 : decode cX12_meet 76 = .ok (.ifCond .eq 29, 3) := by decide +kernel
theorem dX12_meet_79 : decode cX12_meet 79 = .ok (.iload_n 3, 1) := by decide +kernel
theorem dX12_meet_80 : decode cX12_meet 80 = .ok (.iload 4, 2) := by decide +kernel
theorem dX12_meet_82 : decode cX12_meet 82 = .ok (.if_icmp .ge 23, 3) := by decide +kernel
theorem dX12_meet_85 : decode cX12_meet 85 = .ok (.aload_n 0, 1) := by decide +kernel
theorem dX12_meet_86 : decode cX12_meet 86 = .ok (.getfield 46, 3) := by decide +kernel
theorem dX12_meet_89 : decode cX12_meet 89 = .ok (.iload_n 3, 1) := by decide +kernel
theorem dX12_meet_90 : decode cX12_meet 90 = .ok (.iaload, 1) := by decide +kernel
theorem dX12_meet_91 : decode cX12_meet 91 = .ok (.aload_n 0, 1) := by decide +kernel
theorem dX12_meet_92 : decode cX12_meet 92 = .ok (.getfield 46, 3) := by decide +kernel
theorem dX12_meet_95 : decode cX12_meet 95 = .ok (.iload 4, 2) := by decide +kernel
theorem dX12_meet_97 : decode cX12_meet 97 = .ok (.iaload, 1) := by decide +kernel
theorem dX12_meet_98 : decode cX12_meet 98 = .ok (.if_icmp .eq 7, 3) := by decide +kernel
theorem dX12_meet_101 : decode cX12_meet 101 = .ok (.iconst 1, 1) := by decide +kernel
theorem dX12_meet_102 : decode cX12_meet 102 = .ok (.goto 4, 3) := by decide +kernel
theorem dX12_meet_105 : decode cX12_meet 105 = .ok (.iconst 0, 1) := by decide +kernel
theorem dX12_meet_106 : decode cX12_meet 106 = .ok (.istore 6, 2) := by decide +kernel
theorem dX12_meet_108 : decode cX12_meet 108 = .ok (.iload_n 2, 1) := by decide +kernel
theorem dX12_meet_109 : decode cX12_meet 109 = .ok (.iload 5, 2) := by decide +kernel
theorem dX12_meet_111 : decode cX12_meet 111 = .ok (.ifCond .eq 25, 3) := by decide +kernel
theorem dX12_meet_114 : decode cX12_meet 114 = .ok (.aload_n 0, 1) := by decide +kernel
theorem dX12_meet_115 : decode cX12_meet 115 = .ok (.getfield 46, 3) := by decide +kernel
theorem dX12_meet_118 : decode cX12_meet 118 = .ok (.iload_n 3, 1) := by decide +kernel
theorem dX12_meet_119 : decode cX12_meet 119 = .ok (.iaload, 1) := by decide +kernel
theorem dX12_meet_120 : decode cX12_meet 120 = .ok (.aload_n 0, 1) := by decide +kernel
theorem dX12_meet_121 : decode cX12_meet 121 = .ok (.getfield 46, 3) := by decide +kernel
theorem dX12_meet_124 : decode cX12_meet 124 = .ok (.iload 4, 2) := by decide +kernel
theorem dX12_meet_126 : decode cX12_meet 126 = .ok (.iaload, 1) := by decide +kernel
theorem dX12_meet_127 : decode cX12_meet 127 = .ok (.if_icmp .ne 9, 3) := by decide +kernel
theorem dX12_meet_130 : decode cX12_meet 130 = .ok (.iconst 1, 1) := by decide +kernel
theorem dX12_meet_131 : decode cX12_meet 131 = .ok (.iload_n 3, 1) := by decide +kernel
theorem dX12_meet_132 : decode cX12_meet 132 = .ok (.ishl, 1) := by decide +kernel
theorem dX12_meet_133 : decode cX12_meet 133 = .ok (.goto 4, 3) := by decide +kernel
theorem dX12_meet_136 : decode cX12_meet 136 = .ok (.iconst 0, 1) := by decide +kernel
theorem dX12_meet_137 : decode cX12_meet 137 = .ok (.ior, 1) := by decide +kernel
theorem dX12_meet_138 : decode cX12_meet 138 = .ok (.istore_n 2, 1) := by decide +kernel
theorem dX12_meet_139 : decode cX12_meet 139 = .ok (.aload_n 0, 1) := by decide +kernel
theorem dX12_meet_140 : decode cX12_meet 140 = .ok (.dup, 1) := by decide +kernel
theorem dX12_meet_141 : decode cX12_meet 141 = .ok (.getfield 193, 3) := by decide +kernel
theorem dX12_meet_144 : decode cX12_meet 144 = .ok (.iload 6, 2) := by decide +kernel
theorem dX12_meet_146 : decode cX12_meet 146 = .ok (.ifCond .eq 7, 3) := by decide +kernel
theorem dX12_meet_149 : decode cX12_meet 149 = .ok (.iconst 1, 1) := by decide +kernel
theorem dX12_meet_150 : decode cX12_meet 150 = .ok (.goto 4, 3) := by decide +kernel
theorem dX12_meet_153 : decode cX12_meet 153 = .ok (.iconst 0, 1) := by decide +kernel
theorem dX12_meet_154 : decode cX12_meet 154 = .ok (.iadd, 1) := by decide +kernel
theorem dX12_meet_155 : decode cX12_meet 155 = .ok (.putfield 193, 3) := by decide +kernel
theorem dX12_meet_158 : decode cX12_meet 158 = .ok (.aload_n 0, 1) := by decide +kernel
theorem dX12_meet_159 : decode cX12_meet 159 = .ok (.iload 6, 2) := by decide +kernel
theorem dX12_meet_161 : decode cX12_meet 161 = .ok (.ifCond .eq 15, 3) := by decide +kernel
theorem dX12_meet_164 : decode cX12_meet 164 = .ok (.aload_n 0, 1) := by decide +kernel
theorem dX12_meet_165 : decode cX12_meet 165 = .ok (.getfield 196, 3) := by decide +kernel
theorem dX12_meet_168 : decode cX12_meet 168 = .ok (.iconst (-1), 1) := by decide +kernel
theorem dX12_meet_169 : decode cX12_meet 169 = .ok (.if_icmp .ne 7, 3) := by decide +kernel
theorem dX12_meet_172 : decode cX12_meet 172 = .ok (.iload_n 1, 1) := by decide +kernel
theorem dX12_meet_173 : decode cX12_meet 173 = .ok (.goto 7, 3) := by decide +kernel
theorem dX12_meet_176 : decode cX12_meet 176 = .ok (.aload_n 0, 1) := by decide +kernel
theorem dX12_meet_177 : decode cX12_meet 177 = .ok (.getfield 196, 3) := by decide +kernel
theorem dX12_meet_180 : decode cX12_meet 180 = .ok (.putfield 196, 3) := by decide +kernel
theorem dX12_meet_183 : decode cX12_meet 183 = .ok (.iinc 4 1, 3) := by decide +kernel
theorem dX12_meet_186 : decode cX12_meet 186 = .ok (.goto (-171), 3) := by decide +kernel
theorem dX12_meet_189 : decode cX12_meet 189 = .ok (.iinc 3 1, 3) := by decide +kernel
theorem dX12_meet_192 : decode cX12_meet 192 = .ok (.goto (-188), 3) := by decide +kernel
theorem dX12_meet_195 : decode cX12_meet 195 = .ok (.iconst 0, 1) := by decide +kernel
theorem dX12_meet_196 : decode cX12_meet 196 = .ok (.istore_n 3, 1) := by decide +kernel
theorem dX12_meet_197 : decode cX12_meet 197 = .ok (.iload_n 3, 1) := by decide +kernel
theorem dX12_meet_198 : decode cX12_meet 198 = .ok (.aload_n 0, 1) := by decide +kernel
theorem dX12_meet_199 : decode cX12_meet 199 = .ok (.getfield 160, 3) := by decide +kernel
theorem dX12_meet_202 : decode cX12_meet 202 = .ok (.if_icmp .ge 33, 3) := by decide +kernel
theorem dX12_meet_205 : decode cX12_meet 205 = .ok (.aload_n 0, 1) := by decide +kernel
theorem dX12_meet_206 : decode cX12_meet 206 = .ok (.getfield 40, 3) := by decide +kernel
theorem dX12_meet_209 : decode cX12_meet 209 = .ok (.iload_n 3, 1) := by decide +kernel
theorem dX12_meet_210 : decode cX12_meet 210 = .ok (.iload_n 2, 1) := by decide +kernel
theorem dX12_meet_211 : decode cX12_meet 211 = .ok (.iload_n 3, 1) := by decide +kernel
theorem dX12_meet_212 : decode cX12_meet 212 = .ok (.invokestatic 186, 3) := by decide +kernel
theorem dX12_meet_215 : decode cX12_meet 215 = .ok (.ifCond .eq 7, 3) := by decide +kernel
theorem dX12_meet_218 : decode cX12_meet 218 = .ok (.iconst 3, 1) := by decide +kernel
theorem dX12_meet_219 : decode cX12_meet 219 = .ok (.goto 9, 3) := by decide +kernel
theorem dX12_meet_222 : decode cX12_meet 222 = .ok (.aload_n 0, 1) := by decide +kernel
theorem dX12_meet_223 : decode cX12_meet 223 = .ok (.getfield 40, 3) := by decide +kernel
theorem dX12_meet_226 : decode cX12_meet 226 = .ok (.iload_n 3, 1) := by decide +kernel
theorem dX12_meet_227 : decode cX12_meet 227 = .ok (.iaload, 1) := by decide +kernel
theorem dX12_meet_228 : decode cX12_meet 228 = .ok (.iastore, 1) := by decide +kernel
theorem dX12_meet_229 : decode cX12_meet 229 = .ok (.iinc 3 1, 3) := by decide +kernel
theorem dX12_meet_232 : decode cX12_meet 232 = .ok (.goto (-35), 3) := by decide +kernel
theorem dX12_meet_235 : decode cX12_meet 235 = .ok (.return_, 1) := by decide +kernel
theorem dX12_fits_0 : decode cX12_fits 0 = .ok (.aload_n 0, 1) := by decide +kernel
theorem dX12_fits_1 : decode cX12_fits 1 = .ok (.getfield 46, 3) := by decide +kernel
theorem dX12_fits_4 : decode cX12_fits 4 = .ok (.iload_n 1, 1) := by decide +kernel
theorem dX12_fits_5 : decode cX12_fits 5 = .ok (.iaload, 1) := by decide +kernel
theorem dX12_fits_6 : decode cX12_fits 6 = .ok (.aload_n 0, 1) := by decide +kernel
theorem dX12_fits_7 : decode cX12_fits 7 = .ok (.getfield 31, 3) := by decide +kernel
theorem dX12_fits_10 : decode cX12_fits 10 = .ok (.iconst 3, 1) := by decide +kernel
theorem dX12_fits_11 : decode cX12_fits 11 = .ok (.iload_n 2, 1) := by decide +kernel
theorem dX12_fits_12 : decode cX12_fits 12 = .ok (.imul, 1) := by decide +kernel
theorem dX12_fits_13 : decode cX12_fits 13 = .ok (.iconst 1, 1) := by decide +kernel
theorem dX12_fits_14 : decode cX12_fits 14 = .ok (.iadd, 1) := by decide +kernel
theorem dX12_fits_15 : decode cX12_fits 15 = .ok (.iaload, 1) := by decide +kernel
theorem dX12_fits_16 : decode cX12_fits 16 = .ok (.isub, 1) := by decide +kernel
theorem dX12_fits_17 : decode cX12_fits 17 = .ok (.istore_n 3, 1) := by decide +kernel
theorem dX12_fits_18 : decode cX12_fits 18 = .ok (.iload_n 3, 1) := by decide +kernel
theorem dX12_fits_19 : decode cX12_fits 19 = .ok (.ifCond .lt 43, 3) := by decide +kernel
theorem dX12_fits_22 : decode cX12_fits 22 = .ok (.aload_n 0, 1) := by decide +kernel
theorem dX12_fits_23 : decode cX12_fits 23 = .ok (.getfield 31, 3) := by decide +kernel
theorem dX12_fits_26 : decode cX12_fits 26 = .ok (.iconst 3, 1) := by decide +kernel
theorem dX12_fits_27 : decode cX12_fits 27 = .ok (.iload_n 2, 1) := by decide +kernel
theorem dX12_fits_28 : decode cX12_fits 28 = .ok (.imul, 1) := by decide +kernel
theorem dX12_fits_29 : decode cX12_fits 29 = .ok (.iconst 2, 1) := by decide +kernel
theorem dX12_fits_30 : decode cX12_fits 30 = .ok (.iadd, 1) := by decide +kernel
theorem dX12_fits_31 : decode cX12_fits 31 = .ok (.iaload, 1) := by decide +kernel
theorem dX12_fits_32 : decode cX12_fits 32 = .ok (.ifCond .eq 26, 3) := by decide +kernel
theorem dX12_fits_35 : decode cX12_fits 35 = .ok (.iload_n 3, 1) := by decide +kernel
theorem dX12_fits_36 : decode cX12_fits 36 = .ok (.aload_n 0, 1) := by decide +kernel
theorem dX12_fits_37 : decode cX12_fits 37 = .ok (.getfield 31, 3) := by decide +kernel
theorem dX12_fits_40 : decode cX12_fits 40 = .ok (.iconst 3, 1) := by decide +kernel
theorem dX12_fits_41 : decode cX12_fits 41 = .ok (.iload_n 2, 1) := by decide +kernel
theorem dX12_fits_42 : decode cX12_fits 42 = .ok (.imul, 1) := by decide +kernel
theorem dX12_fits_43 : decode cX12_fits 43 = .ok (.iconst 2, 1) := by decide +kernel
theorem dX12_fits_44 : decode cX12_fits 44 = .ok (.iadd, 1) := by decide +kernel
theorem dX12_fits_45 : decode cX12_fits 45 = .ok (.iaload, 1) := by decide +kernel
theorem dX12_fits_46 : decode cX12_fits 46 = .ok (.iconst 1, 1) := by decide +kernel
theorem dX12_fits_47 : decode cX12_fits 47 = .ok (.if_icmp .ne 7, 3) := by decide +kernel
theorem dX12_fits_50 : decode cX12_fits 50 = .ok (.iconst 1, 1) := by decide +kernel
theorem dX12_fits_51 : decode cX12_fits 51 = .ok (.goto 4, 3) := by decide +kernel
theorem dX12_fits_54 : decode cX12_fits 54 = .ok (.iconst 3, 1) := by decide +kernel
theorem dX12_fits_55 : decode cX12_fits 55 = .ok (.if_icmp .gt 7, 3) := by decide +kernel
theorem dX12_fits_58 : decode cX12_fits 58 = .ok (.iconst 1, 1) := by decide +kernel
theorem dX12_fits_59 : decode cX12_fits 59 = .ok (.goto 4, 3) := by decide +kernel
theorem dX12_fits_62 : decode cX12_fits 62 = .ok (.iconst 0, 1) := by decide +kernel
theorem dX12_fits_63 : decode cX12_fits 63 = .ok (.ireturn, 1) := by decide +kernel
theorem dX12_falls_0 : decode cX12_falls 0 = .ok (.iconst 0, 1) := by decide +kernel
theorem dX12_falls_1 : decode cX12_falls 1 = .ok (.istore_n 3, 1) := by decide +kernel
theorem dX12_falls_2 : decode cX12_falls 2 = .ok (.iload_n 3, 1) := by decide +kernel
theorem dX12_falls_3 : decode cX12_falls 3 = .ok (.aload_n 0, 1) := by decide +kernel
theorem dX12_falls_4 : decode cX12_falls 4 = .ok (.getfield 126, 3) := by decide +kernel
theorem dX12_falls_7 : decode cX12_falls 7 = .ok (.if_icmp .ge 76, 3) := by decide +kernel
theorem dX12_falls_10 : decode cX12_falls 10 = .ok (.aload_n 0, 1) := by decide +kernel
theorem dX12_falls_11 : decode cX12_falls 11 = .ok (.getfield 40, 3) := by decide +kernel
theorem dX12_falls_14 : decode cX12_falls 14 = .ok (.iload_n 1, 1) := by decide +kernel
theorem dX12_falls_15 : decode cX12_falls 15 = .ok (.iaload, 1) := by decide +kernel
theorem dX12_falls_16 : decode cX12_falls 16 = .ok (.iconst 1, 1) := by decide +kernel
theorem dX12_falls_17 : decode cX12_falls 17 = .ok (.if_icmp .ne 66, 3) := by decide +kernel
theorem dX12_falls_20 : decode cX12_falls 20 = .ok (.aload_n 0, 1) := by decide +kernel
theorem dX12_falls_21 : decode cX12_falls 21 = .ok (.getfield 31, 3) := by decide +kernel
theorem dX12_falls_24 : decode cX12_falls 24 = .ok (.iconst 3, 1) := by decide +kernel
theorem dX12_falls_25 : decode cX12_falls 25 = .ok (.iload_n 3, 1) := by decide +kernel
theorem dX12_falls_26 : decode cX12_falls 26 = .ok (.imul, 1) := by decide +kernel
theorem dX12_falls_27 : decode cX12_falls 27 = .ok (.iaload, 1) := by decide +kernel
theorem dX12_falls_28 : decode cX12_falls 28 = .ok (.aload_n 0, 1) := by decide +kernel
theorem dX12_falls_29 : decode cX12_falls 29 = .ok (.getfield 43, 3) := by decide +kernel
theorem dX12_falls_32 : decode cX12_falls 32 = .ok (.iload_n 1, 1) := by decide +kernel
theorem dX12_falls_33 : decode cX12_falls 33 = .ok (.iaload, 1) := by decide +kernel
theorem dX12_falls_34 : decode cX12_falls 34 = .ok (.if_icmp .ne 43, 3) := by decide +kernel
theorem dX12_falls_37 : decode cX12_falls 37 = .ok (.aload_n 0, 1) := by decide +kernel
theorem dX12_falls_38 : decode cX12_falls 38 = .ok (.getfield 55, 3) := by decide +kernel
theorem dX12_falls_41 : decode cX12_falls 41 = .ok (.iload_n 3, 1) := by decide +kernel
theorem dX12_falls_42 : decode cX12_falls 42 = .ok (.iaload, 1) := by decide +kernel
theorem dX12_falls_43 : decode cX12_falls 43 = .ok (.iconst (-1), 1) := by decide +kernel
theorem dX12_falls_44 : decode cX12_falls 44 = .ok (.if_icmp .ne 33, 3) := by decide +kernel
theorem dX12_falls_47 : decode cX12_falls 47 = .ok (.aload_n 0, 1) := by decide +kernel
theorem dX12_falls_48 : decode cX12_falls 48 = .ok (.iload_n 1, 1) := by decide +kernel
theorem dX12_falls_49 : decode cX12_falls 49 = .ok (.iload_n 3, 1) := by decide +kernel
theorem dX12_falls_50 : decode cX12_falls 50 = .ok (.invokevirtual 199, 3) := by decide +kernel
theorem dX12_falls_53 : decode cX12_falls 53 = .ok (.ifCond .eq 24, 3) := by decide +kernel
theorem dX12_falls_56 : decode cX12_falls 56 = .ok (.aload_n 0, 1) := by decide +kernel
theorem dX12_falls_57 : decode cX12_falls 57 = .ok (.getfield 55, 3) := by decide +kernel
theorem dX12_falls_60 : decode cX12_falls 60 = .ok (.iload_n 3, 1) := by decide +kernel
theorem dX12_falls_61 : decode cX12_falls 61 = .ok (.iload_n 1, 1) := by decide +kernel
theorem dX12_falls_62 : decode cX12_falls 62 = .ok (.iastore, 1) := by decide +kernel
theorem dX12_falls_63 : decode cX12_falls 63 = .ok (.aload_n 0, 1) := by decide +kernel
theorem dX12_falls_64 : decode cX12_falls 64 = .ok (.getfield 58, 3) := by decide +kernel
theorem dX12_falls_67 : decode cX12_falls 67 = .ok (.iload_n 3, 1) := by decide +kernel
theorem dX12_falls_68 : decode cX12_falls 68 = .ok (.iload_n 2, 1) := by decide +kernel
theorem dX12_falls_69 : decode cX12_falls 69 = .ok (.iastore, 1) := by decide +kernel
theorem dX12_falls_70 : decode cX12_falls 70 = .ok (.aload_n 0, 1) := by decide +kernel
theorem dX12_falls_71 : decode cX12_falls 71 = .ok (.getfield 40, 3) := by decide +kernel
theorem dX12_falls_74 : decode cX12_falls 74 = .ok (.iload_n 1, 1) := by decide +kernel
theorem dX12_falls_75 : decode cX12_falls 75 = .ok (.iconst 2, 1) := by decide +kernel
theorem dX12_falls_76 : decode cX12_falls 76 = .ok (.iastore, 1) := by decide +kernel
theorem dX12_falls_77 : decode cX12_falls 77 = .ok (.iinc 3 1, 3) := by decide +kernel
theorem dX12_falls_80 : decode cX12_falls 80 = .ok (.goto (-78), 3) := by decide +kernel
theorem dX12_falls_83 : decode cX12_falls 83 = .ok (.return_, 1) := by decide +kernel
theorem dX12_keeps_0 : decode cX12_keeps 0 = .ok (.iconst 0, 1) := by decide +kernel
theorem dX12_keeps_1 : decode cX12_keeps 1 = .ok (.istore_n 2, 1) := by decide +kernel
theorem dX12_keeps_2 : decode cX12_keeps 2 = .ok (.iload_n 2, 1) := by decide +kernel
theorem dX12_keeps_3 : decode cX12_keeps 3 = .ok (.aload_n 0, 1) := by decide +kernel
theorem dX12_keeps_4 : decode cX12_keeps 4 = .ok (.getfield 160, 3) := by decide +kernel
theorem dX12_keeps_7 : decode cX12_keeps 7 = .ok (.if_icmp .ge 91, 3) := by decide +kernel
theorem dX12_keeps_10 : decode cX12_keeps 10 = .ok (.aload_n 0, 1) := by decide +kernel
theorem dX12_keeps_11 : decode cX12_keeps 11 = .ok (.getfield 52, 3) := by decide +kernel
theorem dX12_keeps_14 : decode cX12_keeps 14 = .ok (.bipush 32, 2) := by decide +kernel
theorem dX12_keeps_16 : decode cX12_keeps 16 = .ok (.iload_n 1, 1) := by decide +kernel
theorem dX12_keeps_17 : decode cX12_keeps 17 = .ok (.imul, 1) := by decide +kernel
theorem dX12_keeps_18 : decode cX12_keeps 18 = .ok (.iconst 4, 1) := by decide +kernel
theorem dX12_keeps_19 : decode cX12_keeps 19 = .ok (.iload_n 2, 1) := by decide +kernel
theorem dX12_keeps_20 : decode cX12_keeps 20 = .ok (.imul, 1) := by decide +kernel
theorem dX12_keeps_21 : decode cX12_keeps 21 = .ok (.iadd, 1) := by decide +kernel
theorem dX12_keeps_22 : decode cX12_keeps 22 = .ok (.aload_n 0, 1) := by decide +kernel
theorem dX12_keeps_23 : decode cX12_keeps 23 = .ok (.getfield 40, 3) := by decide +kernel
theorem dX12_keeps_26 : decode cX12_keeps 26 = .ok (.iload_n 2, 1) := by decide +kernel
theorem dX12_keeps_27 : decode cX12_keeps 27 = .ok (.iaload, 1) := by decide +kernel
theorem dX12_keeps_28 : decode cX12_keeps 28 = .ok (.iastore, 1) := by decide +kernel
theorem dX12_keeps_29 : decode cX12_keeps 29 = .ok (.aload_n 0, 1) := by decide +kernel
theorem dX12_keeps_30 : decode cX12_keeps 30 = .ok (.getfield 52, 3) := by decide +kernel
theorem dX12_keeps_33 : decode cX12_keeps 33 = .ok (.bipush 32, 2) := by decide +kernel
theorem dX12_keeps_35 : decode cX12_keeps 35 = .ok (.iload_n 1, 1) := by decide +kernel
theorem dX12_keeps_36 : decode cX12_keeps 36 = .ok (.imul, 1) := by decide +kernel
theorem dX12_keeps_37 : decode cX12_keeps 37 = .ok (.iconst 4, 1) := by decide +kernel
theorem dX12_keeps_38 : decode cX12_keeps 38 = .ok (.iload_n 2, 1) := by decide +kernel
theorem dX12_keeps_39 : decode cX12_keeps 39 = .ok (.imul, 1) := by decide +kernel
theorem dX12_keeps_40 : decode cX12_keeps 40 = .ok (.iadd, 1) := by decide +kernel
theorem dX12_keeps_41 : decode cX12_keeps 41 = .ok (.iconst 1, 1) := by decide +kernel
theorem dX12_keeps_42 : decode cX12_keeps 42 = .ok (.iadd, 1) := by decide +kernel
theorem dX12_keeps_43 : decode cX12_keeps 43 = .ok (.aload_n 0, 1) := by decide +kernel
theorem dX12_keeps_44 : decode cX12_keeps 44 = .ok (.getfield 43, 3) := by decide +kernel
theorem dX12_keeps_47 : decode cX12_keeps 47 = .ok (.iload_n 2, 1) := by decide +kernel
theorem dX12_keeps_48 : decode cX12_keeps 48 = .ok (.iaload, 1) := by decide +kernel
theorem dX12_keeps_49 : decode cX12_keeps 49 = .ok (.iastore, 1) := by decide +kernel
theorem dX12_keeps_50 : decode cX12_keeps 50 = .ok (.aload_n 0, 1) := by decide +kernel
theorem dX12_keeps_51 : decode cX12_keeps 51 = .ok (.getfield 52, 3) := by decide +kernel
theorem dX12_keeps_54 : decode cX12_keeps 54 = .ok (.bipush 32, 2) := by decide +kernel
theorem dX12_keeps_56 : decode cX12_keeps 56 = .ok (.iload_n 1, 1) := by decide +kernel
theorem dX12_keeps_57 : decode cX12_keeps 57 = .ok (.imul, 1) := by decide +kernel
theorem dX12_keeps_58 : decode cX12_keeps 58 = .ok (.iconst 4, 1) := by decide +kernel
theorem dX12_keeps_59 : decode cX12_keeps 59 = .ok (.iload_n 2, 1) := by decide +kernel
theorem dX12_keeps_60 : decode cX12_keeps 60 = .ok (.imul, 1) := by decide +kernel
theorem dX12_keeps_61 : decode cX12_keeps 61 = .ok (.iadd, 1) := by decide +kernel
theorem dX12_keeps_62 : decode cX12_keeps 62 = .ok (.iconst 2, 1) := by decide +kernel
theorem dX12_keeps_63 : decode cX12_keeps 63 = .ok (.iadd, 1) := by decide +kernel
theorem dX12_keeps_64 : decode cX12_keeps 64 = .ok (.aload_n 0, 1) := by decide +kernel
theorem dX12_keeps_65 : decode cX12_keeps 65 = .ok (.getfield 46, 3) := by decide +kernel
theorem dX12_keeps_68 : decode cX12_keeps 68 = .ok (.iload_n 2, 1) := by decide +kernel
theorem dX12_keeps_69 : decode cX12_keeps 69 = .ok (.iaload, 1) := by decide +kernel
theorem dX12_keeps_70 : decode cX12_keeps 70 = .ok (.iastore, 1) := by decide +kernel
theorem dX12_keeps_71 : decode cX12_keeps 71 = .ok (.aload_n 0, 1) := by decide +kernel
theorem dX12_keeps_72 : decode cX12_keeps 72 = .ok (.getfield 52, 3) := by decide +kernel
theorem dX12_keeps_75 : decode cX12_keeps 75 = .ok (.bipush 32, 2) := by decide +kernel
theorem dX12_keeps_77 : decode cX12_keeps 77 = .ok (.iload_n 1, 1) := by decide +kernel
theorem dX12_keeps_78 : decode cX12_keeps 78 = .ok (.imul, 1) := by decide +kernel
theorem dX12_keeps_79 : decode cX12_keeps 79 = .ok (.iconst 4, 1) := by decide +kernel
theorem dX12_keeps_80 : decode cX12_keeps 80 = .ok (.iload_n 2, 1) := by decide +kernel
theorem dX12_keeps_81 : decode cX12_keeps 81 = .ok (.imul, 1) := by decide +kernel
theorem dX12_keeps_82 : decode cX12_keeps 82 = .ok (.iadd, 1) := by decide +kernel
theorem dX12_keeps_83 : decode cX12_keeps 83 = .ok (.iconst 3, 1) := by decide +kernel
theorem dX12_keeps_84 : decode cX12_keeps 84 = .ok (.iadd, 1) := by decide +kernel
theorem dX12_keeps_85 : decode cX12_keeps 85 = .ok (.aload_n 0, 1) := by decide +kernel
theorem dX12_keeps_86 : decode cX12_keeps 86 = .ok (.getfield 49, 3) := by decide +kernel
theorem dX12_keeps_89 : decode cX12_keeps 89 = .ok (.iload_n 2, 1) := by decide +kernel
theorem dX12_keeps_90 : decode cX12_keeps 90 = .ok (.iaload, 1) := by decide +kernel
theorem dX12_keeps_91 : decode cX12_keeps 91 = .ok (.iastore, 1) := by decide +kernel
theorem dX12_keeps_92 : decode cX12_keeps 92 = .ok (.iinc 2 1, 3) := by decide +kernel
theorem dX12_keeps_95 : decode cX12_keeps 95 = .ok (.goto (-93), 3) := by decide +kernel
theorem dX12_keeps_98 : decode cX12_keeps 98 = .ok (.return_, 1) := by decide +kernel
theorem dX12_steps_0 : decode cX12_steps 0 = .ok (.iconst 0, 1) := by decide +kernel
theorem dX12_steps_1 : decode cX12_steps 1 = .ok (.istore_n 2, 1) := by decide +kernel
theorem dX12_steps_2 : decode cX12_steps 2 = .ok (.iload_n 2, 1) := by decide +kernel
theorem dX12_steps_3 : decode cX12_steps 3 = .ok (.aload_n 0, 1) := by decide +kernel
theorem dX12_steps_4 : decode cX12_steps 4 = .ok (.getfield 160, 3) := by decide +kernel
theorem dX12_steps_7 : decode cX12_steps 7 = .ok (.if_icmp .ge 25, 3) := by decide +kernel
theorem dX12_steps_10 : decode cX12_steps 10 = .ok (.aload_n 0, 1) := by decide +kernel
theorem dX12_steps_11 : decode cX12_steps 11 = .ok (.getfield 40, 3) := by decide +kernel
theorem dX12_steps_14 : decode cX12_steps 14 = .ok (.iload_n 2, 1) := by decide +kernel
theorem dX12_steps_15 : decode cX12_steps 15 = .ok (.iaload, 1) := by decide +kernel
theorem dX12_steps_16 : decode cX12_steps 16 = .ok (.iconst 1, 1) := by decide +kernel
theorem dX12_steps_17 : decode cX12_steps 17 = .ok (.if_icmp .ne 9, 3) := by decide +kernel
theorem dX12_steps_20 : decode cX12_steps 20 = .ok (.aload_n 0, 1) := by decide +kernel
theorem dX12_steps_21 : decode cX12_steps 21 = .ok (.iload_n 2, 1) := by decide +kernel
theorem dX12_steps_22 : decode cX12_steps 22 = .ok (.iload_n 1, 1) := by decide +kernel
theorem dX12_steps_23 : decode cX12_steps 23 = .ok (.invokevirtual 202, 3) := by decide +kernel
theorem dX12_steps_26 : decode cX12_steps 26 = .ok (.iinc 2 1, 3) := by decide +kernel
theorem dX12_steps_29 : decode cX12_steps 29 = .ok (.goto (-27), 3) := by decide +kernel
theorem dX12_steps_32 : decode cX12_steps 32 = .ok (.iconst 0, 1) := by decide +kernel
theorem dX12_steps_33 : decode cX12_steps 33 = .ok (.istore_n 2, 1) := by decide +kernel
theorem dX12_steps_34 : decode cX12_steps 34 = .ok (.iload_n 2, 1) := by decide +kernel
theorem dX12_steps_35 : decode cX12_steps 35 = .ok (.aload_n 0, 1) := by decide +kernel
theorem dX12_steps_36 : decode cX12_steps 36 = .ok (.getfield 160, 3) := by decide +kernel
theorem dX12_steps_39 : decode cX12_steps 39 = .ok (.if_icmp .ge 37, 3) := by decide +kernel
theorem dX12_steps_42 : decode cX12_steps 42 = .ok (.aload_n 0, 1) := by decide +kernel
theorem dX12_steps_43 : decode cX12_steps 43 = .ok (.getfield 37, 3) := by decide +kernel
theorem dX12_steps_46 : decode cX12_steps 46 = .ok (.iconst 5, 1) := by decide +kernel
theorem dX12_steps_47 : decode cX12_steps 47 = .ok (.iload_n 2, 1) := by decide +kernel
theorem dX12_steps_48 : decode cX12_steps 48 = .ok (.imul, 1) := by decide +kernel
theorem dX12_steps_49 : decode cX12_steps 49 = .ok (.iaload, 1) := by decide +kernel
theorem dX12_steps_50 : decode cX12_steps 50 = .ok (.iload_n 1, 1) := by decide +kernel
theorem dX12_steps_51 : decode cX12_steps 51 = .ok (.if_icmp .ne 19, 3) := by decide +kernel
theorem dX12_steps_54 : decode cX12_steps 54 = .ok (.aload_n 0, 1) := by decide +kernel
theorem dX12_steps_55 : decode cX12_steps 55 = .ok (.getfield 205, 3) := by decide +kernel
theorem dX12_steps_58 : decode cX12_steps 58 = .ok (.iload_n 2, 1) := by decide +kernel
theorem dX12_steps_59 : decode cX12_steps 59 = .ok (.invokestatic 186, 3) := by decide +kernel
theorem dX12_steps_62 : decode cX12_steps 62 = .ok (.ifCond .ne 8, 3) := by decide +kernel
theorem dX12_steps_65 : decode cX12_steps 65 = .ok (.aload_n 0, 1) := by decide +kernel
theorem dX12_steps_66 : decode cX12_steps 66 = .ok (.iload_n 2, 1) := by decide +kernel
theorem dX12_steps_67 : decode cX12_steps 67 = .ok (.invokevirtual 208, 3) := by decide +kernel
theorem dX12_steps_70 : decode cX12_steps 70 = .ok (.iinc 2 1, 3) := by decide +kernel
theorem dX12_steps_73 : decode cX12_steps 73 = .ok (.goto (-39), 3) := by decide +kernel
theorem dX12_steps_76 : decode cX12_steps 76 = .ok (.iconst 0, 1) := by decide +kernel
theorem dX12_steps_77 : decode cX12_steps 77 = .ok (.istore_n 2, 1) := by decide +kernel
theorem dX12_steps_78 : decode cX12_steps 78 = .ok (.iload_n 2, 1) := by decide +kernel
theorem dX12_steps_79 : decode cX12_steps 79 = .ok (.aload_n 0, 1) := by decide +kernel
theorem dX12_steps_80 : decode cX12_steps 80 = .ok (.getfield 160, 3) := by decide +kernel
theorem dX12_steps_83 : decode cX12_steps 83 = .ok (.if_icmp .ge 25, 3) := by decide +kernel
theorem dX12_steps_86 : decode cX12_steps 86 = .ok (.aload_n 0, 1) := by decide +kernel
theorem dX12_steps_87 : decode cX12_steps 87 = .ok (.getfield 40, 3) := by decide +kernel
theorem dX12_steps_90 : decode cX12_steps 90 = .ok (.iload_n 2, 1) := by decide +kernel
theorem dX12_steps_91 : decode cX12_steps 91 = .ok (.iaload, 1) := by decide +kernel
theorem dX12_steps_92 : decode cX12_steps 92 = .ok (.iconst 1, 1) := by decide +kernel
theorem dX12_steps_93 : decode cX12_steps 93 = .ok (.if_icmp .ne 9, 3) := by decide +kernel
theorem dX12_steps_96 : decode cX12_steps 96 = .ok (.aload_n 0, 1) := by decide +kernel
theorem dX12_steps_97 : decode cX12_steps 97 = .ok (.iload_n 2, 1) := by decide +kernel
theorem dX12_steps_98 : decode cX12_steps 98 = .ok (.iload_n 1, 1) := by decide +kernel
theorem dX12_steps_99 : decode cX12_steps 99 = .ok (.invokevirtual 212, 3) := by decide +kernel
theorem dX12_steps_102 : decode cX12_steps 102 = .ok (.iinc 2 1, 3) := by decide +kernel
theorem dX12_steps_105 : decode cX12_steps 105 = .ok (.goto (-27), 3) := by decide +kernel
theorem dX12_steps_108 : decode cX12_steps 108 = .ok (.aload_n 0, 1) := by decide +kernel
theorem dX12_steps_109 : decode cX12_steps 109 = .ok (.iload_n 1, 1) := by decide +kernel
theorem dX12_steps_110 : decode cX12_steps 110 = .ok (.invokevirtual 215, 3) := by decide +kernel
theorem dX12_steps_113 : decode cX12_steps 113 = .ok (.iconst 0, 1) := by decide +kernel
theorem dX12_steps_114 : decode cX12_steps 114 = .ok (.istore_n 2, 1) := by decide +kernel
theorem dX12_steps_115 : decode cX12_steps 115 = .ok (.iload_n 2, 1) := by decide +kernel
theorem dX12_steps_116 : decode cX12_steps 116 = .ok (.aload_n 0, 1) := by decide +kernel
theorem dX12_steps_117 : decode cX12_steps 117 = .ok (.getfield 160, 3) := by decide +kernel
theorem dX12_steps_120 : decode cX12_steps 120 = .ok (.if_icmp .ge 15, 3) := by decide +kernel
theorem dX12_steps_123 : decode cX12_steps 123 = .ok (.aload_n 0, 1) := by decide +kernel
theorem dX12_steps_124 : decode cX12_steps 124 = .ok (.iload_n 2, 1) := by decide +kernel
theorem dX12_steps_125 : decode cX12_steps 125 = .ok (.iload_n 1, 1) := by decide +kernel
theorem dX12_steps_126 : decode cX12_steps 126 = .ok (.invokevirtual 218, 3) := by decide +kernel
theorem dX12_steps_129 : decode cX12_steps 129 = .ok (.iinc 2 1, 3) := by decide +kernel
theorem dX12_steps_132 : decode cX12_steps 132 = .ok (.goto (-17), 3) := by decide +kernel
theorem dX12_steps_135 : decode cX12_steps 135 = .ok (.aload_n 0, 1) := by decide +kernel
theorem dX12_steps_136 : decode cX12_steps 136 = .ok (.iload_n 1, 1) := by decide +kernel
theorem dX12_steps_137 : decode cX12_steps 137 = .ok (.invokevirtual 221, 3) := by decide +kernel
theorem dX12_steps_140 : decode cX12_steps 140 = .ok (.return_, 1) := by decide +kernel
theorem dX12_lives_0 : decode cX12_lives 0 = .ok (.iconst 0, 1) := by decide +kernel
theorem dX12_lives_1 : decode cX12_lives 1 = .ok (.istore_n 1, 1) := by decide +kernel
theorem dX12_lives_2 : decode cX12_lives 2 = .ok (.iload_n 1, 1) := by decide +kernel
theorem dX12_lives_3 : decode cX12_lives 3 = .ok (.aload_n 0, 1) := by decide +kernel
theorem dX12_lives_4 : decode cX12_lives 4 = .ok (.getfield 160, 3) := by decide +kernel
theorem dX12_lives_7 : decode cX12_lives 7 = .ok (.if_icmp .ge 46, 3) := by decide +kernel
theorem dX12_lives_10 : decode cX12_lives 10 = .ok (.aload_n 0, 1) := by decide +kernel
theorem dX12_lives_11 : decode cX12_lives 11 = .ok (.getfield 40, 3) := by decide +kernel
theorem dX12_lives_14 : decode cX12_lives 14 = .ok (.iload_n 1, 1) := by decide +kernel
theorem dX12_lives_15 : decode cX12_lives 15 = .ok (.iconst 0, 1) := by decide +kernel
theorem dX12_lives_16 : decode cX12_lives 16 = .ok (.iastore, 1) := by decide +kernel
theorem dX12_lives_17 : decode cX12_lives 17 = .ok (.aload_n 0, 1) := by decide +kernel
theorem dX12_lives_18 : decode cX12_lives 18 = .ok (.getfield 43, 3) := by decide +kernel
theorem dX12_lives_21 : decode cX12_lives 21 = .ok (.iload_n 1, 1) := by decide +kernel
theorem dX12_lives_22 : decode cX12_lives 22 = .ok (.iconst (-1), 1) := by decide +kernel
theorem dX12_lives_23 : decode cX12_lives 23 = .ok (.iastore, 1) := by decide +kernel
theorem dX12_lives_24 : decode cX12_lives 24 = .ok (.aload_n 0, 1) := by decide +kernel
theorem dX12_lives_25 : decode cX12_lives 25 = .ok (.getfield 46, 3) := by decide +kernel
theorem dX12_lives_28 : decode cX12_lives 28 = .ok (.iload_n 1, 1) := by decide +kernel
theorem dX12_lives_29 : decode cX12_lives 29 = .ok (.iconst 0, 1) := by decide +kernel
theorem dX12_lives_30 : decode cX12_lives 30 = .ok (.iastore, 1) := by decide +kernel
theorem dX12_lives_31 : decode cX12_lives 31 = .ok (.aload_n 0, 1) := by decide +kernel
theorem dX12_lives_32 : decode cX12_lives 32 = .ok (.getfield 49, 3) := by decide +kernel
theorem dX12_lives_35 : decode cX12_lives 35 = .ok (.iload_n 1, 1) := by decide +kernel
theorem dX12_lives_36 : decode cX12_lives 36 = .ok (.aload_n 0, 1) := by decide +kernel
theorem dX12_lives_37 : decode cX12_lives 37 = .ok (.getfield 37, 3) := by decide +kernel
theorem dX12_lives_40 : decode cX12_lives 40 = .ok (.iconst 5, 1) := by decide +kernel
theorem dX12_lives_41 : decode cX12_lives 41 = .ok (.iload_n 1, 1) := by decide +kernel
theorem dX12_lives_42 : decode cX12_lives 42 = .ok (.imul, 1) := by decide +kernel
theorem dX12_lives_43 : decode cX12_lives 43 = .ok (.iconst 3, 1) := by decide +kernel
theorem dX12_lives_44 : decode cX12_lives 44 = .ok (.iadd, 1) := by decide +kernel
theorem dX12_lives_45 : decode cX12_lives 45 = .ok (.iaload, 1) := by decide +kernel
theorem dX12_lives_46 : decode cX12_lives 46 = .ok (.iastore, 1) := by decide +kernel
theorem dX12_lives_47 : decode cX12_lives 47 = .ok (.iinc 1 1, 3) := by decide +kernel
theorem dX12_lives_50 : decode cX12_lives 50 = .ok (.goto (-48), 3) := by decide +kernel
theorem dX12_lives_53 : decode cX12_lives 53 = .ok (.iconst 0, 1) := by decide +kernel
theorem dX12_lives_54 : decode cX12_lives 54 = .ok (.istore_n 1, 1) := by decide +kernel
theorem dX12_lives_55 : decode cX12_lives 55 = .ok (.iload_n 1, 1) := by decide +kernel
theorem dX12_lives_56 : decode cX12_lives 56 = .ok (.aload_n 0, 1) := by decide +kernel
theorem dX12_lives_57 : decode cX12_lives 57 = .ok (.getfield 126, 3) := by decide +kernel
theorem dX12_lives_60 : decode cX12_lives 60 = .ok (.if_icmp .ge 23, 3) := by decide +kernel
theorem dX12_lives_63 : decode cX12_lives 63 = .ok (.aload_n 0, 1) := by decide +kernel
theorem dX12_lives_64 : decode cX12_lives 64 = .ok (.getfield 55, 3) := by decide +kernel
theorem dX12_lives_67 : decode cX12_lives 67 = .ok (.iload_n 1, 1) := by decide +kernel
theorem dX12_lives_68 : decode cX12_lives 68 = .ok (.iconst (-1), 1) := by decide +kernel
theorem dX12_lives_69 : decode cX12_lives 69 = .ok (.iastore, 1) := by decide +kernel
theorem dX12_lives_70 : decode cX12_lives 70 = .ok (.aload_n 0, 1) := by decide +kernel
theorem dX12_lives_71 : decode cX12_lives 71 = .ok (.getfield 58, 3) := by decide +kernel
theorem dX12_lives_74 : decode cX12_lives 74 = .ok (.iload_n 1, 1) := by decide +kernel
theorem dX12_lives_75 : decode cX12_lives 75 = .ok (.iconst (-1), 1) := by decide +kernel
theorem dX12_lives_76 : decode cX12_lives 76 = .ok (.iastore, 1) := by decide +kernel
theorem dX12_lives_77 : decode cX12_lives 77 = .ok (.iinc 1 1, 3) := by decide +kernel
theorem dX12_lives_80 : decode cX12_lives 80 = .ok (.goto (-25), 3) := by decide +kernel
theorem dX12_lives_83 : decode cX12_lives 83 = .ok (.aload_n 0, 1) := by decide +kernel
theorem dX12_lives_84 : decode cX12_lives 84 = .ok (.iconst 0, 1) := by decide +kernel
theorem dX12_lives_85 : decode cX12_lives 85 = .ok (.putfield 193, 3) := by decide +kernel
theorem dX12_lives_88 : decode cX12_lives 88 = .ok (.aload_n 0, 1) := by decide +kernel
theorem dX12_lives_89 : decode cX12_lives 89 = .ok (.iconst (-1), 1) := by decide +kernel
theorem dX12_lives_90 : decode cX12_lives 90 = .ok (.putfield 196, 3) := by decide +kernel
theorem dX12_lives_93 : decode cX12_lives 93 = .ok (.iconst 0, 1) := by decide +kernel
theorem dX12_lives_94 : decode cX12_lives 94 = .ok (.istore_n 1, 1) := by decide +kernel
theorem dX12_lives_95 : decode cX12_lives 95 = .ok (.iload_n 1, 1) := by decide +kernel
theorem dX12_lives_96 : decode cX12_lives 96 = .ok (.bipush 20, 2) := by decide +kernel
theorem dX12_lives_98 : decode cX12_lives 98 = .ok (.if_icmp .ge 14, 3) := by decide +kernel
theorem dX12_lives_101 : decode cX12_lives 101 = .ok (.aload_n 0, 1) := by decide +kernel
theorem dX12_lives_102 : decode cX12_lives 102 = .ok (.iload_n 1, 1) := by decide +kernel
theorem dX12_lives_103 : decode cX12_lives 103 = .ok (.invokevirtual 224, 3) := by decide +kernel
theorem dX12_lives_106 : decode cX12_lives 106 = .ok (.iinc 1 1, 3) := by decide +kernel
theorem dX12_lives_109 : decode cX12_lives 109 = .ok (.goto (-14), 3) := by decide +kernel
theorem dX12_lives_112 : decode cX12_lives 112 = .ok (.return_, 1) := by decide +kernel
theorem dX12_find_0 : decode cX12_find 0 = .ok (.aload_n 0, 1) := by decide +kernel
theorem dX12_find_1 : decode cX12_find 1 = .ok (.invokevirtual 135, 3) := by decide +kernel
theorem dX12_find_4 : decode cX12_find 4 = .ok (.pop, 1) := by decide +kernel
theorem dX12_find_5 : decode cX12_find 5 = .ok (.aload_n 0, 1) := by decide +kernel
theorem dX12_find_6 : decode cX12_find 6 = .ok (.invokevirtual 139, 3) := by decide +kernel
theorem dX12_find_9 : decode cX12_find 9 = .ok (.pop, 1) := by decide +kernel
theorem dX12_find_10 : decode cX12_find 10 = .ok (.aload_n 0, 1) := by decide +kernel
theorem dX12_find_11 : decode cX12_find 11 = .ok (.invokevirtual 142, 3) := by decide +kernel
theorem dX12_find_14 : decode cX12_find 14 = .ok (.pop, 1) := by decide +kernel
theorem dX12_find_15 : decode cX12_find 15 = .ok (.aload_n 0, 1) := by decide +kernel
theorem dX12_find_16 : decode cX12_find 16 = .ok (.invokevirtual 227, 3) := by decide +kernel
theorem dX12_find_19 : decode cX12_find 19 = .ok (.return_, 1) := by decide +kernel
theorem dX12_at_0 : decode cX12_at 0 = .ok (.aload_n 0, 1) := by decide +kernel
theorem dX12_at_1 : decode cX12_at 1 = .ok (.invokevirtual 230, 3) := by decide +kernel
theorem dX12_at_4 : decode cX12_at 4 = .ok (.iload_n 1, 1) := by decide +kernel
theorem dX12_at_5 : decode cX12_at 5 = .ok (.invokestatic 155, 3) := by decide +kernel
theorem dX12_at_8 : decode cX12_at 8 = .ok (.ifCond .eq 41, 3) := by decide +kernel
theorem dX12_at_11 : decode cX12_at 11 = .ok (.aload_n 0, 1) := by decide +kernel
theorem dX12_at_12 : decode cX12_at 12 = .ok (.iload_n 2, 1) := by decide +kernel
theorem dX12_at_13 : decode cX12_at 13 = .ok (.invokevirtual 169, 3) := by decide +kernel
theorem dX12_at_16 : decode cX12_at 16 = .ok (.ifCond .eq 33, 3) := by decide +kernel
theorem dX12_at_19 : decode cX12_at 19 = .ok (.iload_n 3, 1) := by decide +kernel
theorem dX12_at_20 : decode cX12_at 20 = .ok (.i2l, 1) := by decide +kernel
theorem dX12_at_21 : decode cX12_at 21 = .ok (.lconst 0, 1) := by decide +kernel
theorem dX12_at_22 : decode cX12_at 22 = .ok (.ldc2_w 83, 3) := by decide +kernel
theorem dX12_at_25 : decode cX12_at 25 = .ok (.invokestatic 76, 3) := by decide +kernel
theorem dX12_at_28 : decode cX12_at 28 = .ok (.ifCond .eq 21, 3) := by decide +kernel
theorem dX12_at_31 : decode cX12_at 31 = .ok (.aload_n 0, 1) := by decide +kernel
theorem dX12_at_32 : decode cX12_at 32 = .ok (.getfield 52, 3) := by decide +kernel
theorem dX12_at_35 : decode cX12_at 35 = .ok (.bipush 32, 2) := by decide +kernel
theorem dX12_at_37 : decode cX12_at 37 = .ok (.iload_n 1, 1) := by decide +kernel
theorem dX12_at_38 : decode cX12_at 38 = .ok (.imul, 1) := by decide +kernel
theorem dX12_at_39 : decode cX12_at 39 = .ok (.iconst 4, 1) := by decide +kernel
theorem dX12_at_40 : decode cX12_at 40 = .ok (.iload_n 2, 1) := by decide +kernel
theorem dX12_at_41 : decode cX12_at 41 = .ok (.imul, 1) := by decide +kernel
theorem dX12_at_42 : decode cX12_at 42 = .ok (.iadd, 1) := by decide +kernel
theorem dX12_at_43 : decode cX12_at 43 = .ok (.iload_n 3, 1) := by decide +kernel
theorem dX12_at_44 : decode cX12_at 44 = .ok (.iadd, 1) := by decide +kernel
theorem dX12_at_45 : decode cX12_at 45 = .ok (.iaload, 1) := by decide +kernel
theorem dX12_at_46 : decode cX12_at 46 = .ok (.goto 5, 3) := by decide +kernel
theorem dX12_at_49 : decode cX12_at 49 = .ok (.bipush (-2), 2) := by decide +kernel
theorem dX12_at_51 : decode cX12_at 51 = .ok (.ireturn, 1) := by decide +kernel
theorem dX12_whomOf_0 : decode cX12_whomOf 0 = .ok (.aload_n 0, 1) := by decide +kernel
theorem dX12_whomOf_1 : decode cX12_whomOf 1 = .ok (.getfield 55, 3) := by decide +kernel
theorem dX12_whomOf_4 : decode cX12_whomOf 4 = .ok (.iload_n 1, 1) := by decide +kernel
theorem dX12_whomOf_5 : decode cX12_whomOf 5 = .ok (.iaload, 1) := by decide +kernel
theorem dX12_whomOf_6 : decode cX12_whomOf 6 = .ok (.iconst (-1), 1) := by decide +kernel
theorem dX12_whomOf_7 : decode cX12_whomOf 7 = .ok (.if_icmp .ne 7, 3) := by decide +kernel
theorem dX12_whomOf_10 : decode cX12_whomOf 10 = .ok (.iconst (-1), 1) := by decide +kernel
theorem dX12_whomOf_11 : decode cX12_whomOf 11 = .ok (.goto 18, 3) := by decide +kernel
theorem dX12_whomOf_14 : decode cX12_whomOf 14 = .ok (.aload_n 0, 1) := by decide +kernel
theorem dX12_whomOf_15 : decode cX12_whomOf 15 = .ok (.getfield 37, 3) := by decide +kernel
theorem dX12_whomOf_18 : decode cX12_whomOf 18 = .ok (.iconst 5, 1) := by decide +kernel
theorem dX12_whomOf_19 : decode cX12_whomOf 19 = .ok (.aload_n 0, 1) := by decide +kernel
theorem dX12_whomOf_20 : decode cX12_whomOf 20 = .ok (.getfield 55, 3) := by decide +kernel
theorem dX12_whomOf_23 : decode cX12_whomOf 23 = .ok (.iload_n 1, 1) := by decide +kernel
theorem dX12_whomOf_24 : decode cX12_whomOf 24 = .ok (.iaload, 1) := by decide +kernel
