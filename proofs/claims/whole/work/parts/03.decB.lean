theorem dX11_init_0 : decode cX11_init 0 = .ok (.aload_n 0, 1) := by decide +kernel
theorem dX11_init_1 : decode cX11_init 1 = .ok (.invokespecial 3, 3) := by decide +kernel
theorem dX11_init_4 : decode cX11_init 4 = .ok (.aload_n 0, 1) := by decide +kernel
theorem dX11_init_5 : decode cX11_init 5 = .ok (.iconst 3, 1) := by decide +kernel
theorem dX11_init_6 : decode cX11_init 6 = .ok (.anewarray 9, 3) := by decide +kernel
theorem dX11_init_9 : decode cX11_init 9 = .ok (.putfield 11, 3) := by decide +kernel
theorem dX11_init_12 : decode cX11_init 12 = .ok (.aload_n 0, 1) := by decide +kernel
theorem dX11_init_13 : decode cX11_init 13 = .ok (.iconst 3, 1) := by decide +kernel
theorem dX11_init_14 : decode cX11_init 14 = .ok (.newarray .int, 2) := by decide +kernel
theorem dX11_init_16 : decode cX11_init 16 = .ok (.dup, 1) := by decide +kernel
theorem dX11_init_17 : decode cX11_init 17 = .ok (.iconst 0, 1) := by decide +kernel
theorem dX11_init_18 : decode cX11_init 18 = .ok (.iconst (-1), 1) := by decide +kernel
theorem dX11_init_19 : decode cX11_init 19 = .ok (.iastore, 1) := by decide +kernel
theorem dX11_init_20 : decode cX11_init 20 = .ok (.dup, 1) := by decide +kernel
theorem dX11_init_21 : decode cX11_init 21 = .ok (.iconst 1, 1) := by decide +kernel
theorem dX11_init_22 : decode cX11_init 22 = .ok (.iconst (-1), 1) := by decide +kernel
theorem dX11_init_23 : decode cX11_init 23 = .ok (.iastore, 1) := by decide +kernel
theorem dX11_init_24 : decode cX11_init 24 = .ok (.dup, 1) := by decide +kernel
theorem dX11_init_25 : decode cX11_init 25 = .ok (.iconst 2, 1) := by decide +kernel
theorem dX11_init_26 : decode cX11_init 26 = .ok (.iconst (-1), 1) := by decide +kernel
theorem dX11_init_27 : decode cX11_init 27 = .ok (.iastore, 1) := by decide +kernel
theorem dX11_init_28 : decode cX11_init 28 = .ok (.putfield 15, 3) := by decide +kernel
theorem dX11_init_31 : decode cX11_init 31 = .ok (.aload_n 0, 1) := by decide +kernel
theorem dX11_init_32 : decode cX11_init 32 = .ok (.new 19, 3) := by decide +kernel
theorem dX11_init_35 : decode cX11_init 35 = .ok (.dup, 1) := by decide +kernel
theorem dX11_init_36 : decode cX11_init 36 = .ok (.invokespecial 21, 3) := by decide +kernel
theorem dX11_init_39 : decode cX11_init 39 = .ok (.putfield 22, 3) := by decide +kernel
theorem dX11_init_42 : decode cX11_init 42 = .ok (.aload_n 0, 1) := by decide +kernel
theorem dX11_init_43 : decode cX11_init 43 = .ok (.new 26, 3) := by decide +kernel
theorem dX11_init_46 : decode cX11_init 46 = .ok (.dup, 1) := by decide +kernel
theorem dX11_init_47 : decode cX11_init 47 = .ok (.invokespecial 28, 3) := by decide +kernel
theorem dX11_init_50 : decode cX11_init 50 = .ok (.putfield 29, 3) := by decide +kernel
theorem dX11_init_53 : decode cX11_init 53 = .ok (.aload_n 0, 1) := by decide +kernel
theorem dX11_init_54 : decode cX11_init 54 = .ok (.new 33, 3) := by decide +kernel
theorem dX11_init_57 : decode cX11_init 57 = .ok (.dup, 1) := by decide +kernel
theorem dX11_init_58 : decode cX11_init 58 = .ok (.aload_n 0, 1) := by decide +kernel
theorem dX11_init_59 : decode cX11_init 59 = .ok (.getfield 22, 3) := by decide +kernel
theorem dX11_init_62 : decode cX11_init 62 = .ok (.invokespecial 35, 3) := by decide +kernel
theorem dX11_init_65 : decode cX11_init 65 = .ok (.putfield 38, 3) := by decide +kernel
theorem dX11_init_68 : decode cX11_init 68 = .ok (.aload_n 0, 1) := by decide +kernel
theorem dX11_init_69 : decode cX11_init 69 = .ok (.new 42, 3) := by decide +kernel
theorem dX11_init_72 : decode cX11_init 72 = .ok (.dup, 1) := by decide +kernel
theorem dX11_init_73 : decode cX11_init 73 = .ok (.invokespecial 44, 3) := by decide +kernel
theorem dX11_init_76 : decode cX11_init 76 = .ok (.putfield 45, 3) := by decide +kernel
theorem dX11_init_79 : decode cX11_init 79 = .ok (.aload_n 0, 1) := by decide +kernel
theorem dX11_init_80 : decode cX11_init 80 = .ok (.new 49, 3) := by decide +kernel
theorem dX11_init_83 : decode cX11_init 83 = .ok (.dup, 1) := by decide +kernel
theorem dX11_init_84 : decode cX11_init 84 = .ok (.invokespecial 51, 3) := by decide +kernel
theorem dX11_init_87 : decode cX11_init 87 = .ok (.putfield 52, 3) := by decide +kernel
theorem dX11_init_90 : decode cX11_init 90 = .ok (.aload_n 0, 1) := by decide +kernel
theorem dX11_init_91 : decode cX11_init 91 = .ok (.iconst 4, 1) := by decide +kernel
theorem dX11_init_92 : decode cX11_init 92 = .ok (.anewarray 56, 3) := by decide +kernel
theorem dX11_init_95 : decode cX11_init 95 = .ok (.putfield 58, 3) := by decide +kernel
theorem dX11_init_98 : decode cX11_init 98 = .ok (.aload_n 0, 1) := by decide +kernel
theorem dX11_init_99 : decode cX11_init 99 = .ok (.iconst 0, 1) := by decide +kernel
theorem dX11_init_100 : decode cX11_init 100 = .ok (.putfield 62, 3) := by decide +kernel
theorem dX11_init_103 : decode cX11_init 103 = .ok (.aload_n 0, 1) := by decide +kernel
theorem dX11_init_104 : decode cX11_init 104 = .ok (.iconst 0, 1) := by decide +kernel
theorem dX11_init_105 : decode cX11_init 105 = .ok (.putfield 66, 3) := by decide +kernel
theorem dX11_init_108 : decode cX11_init 108 = .ok (.iconst 0, 1) := by decide +kernel
theorem dX11_init_109 : decode cX11_init 109 = .ok (.istore_n 1, 1) := by decide +kernel
theorem dX11_init_110 : decode cX11_init 110 = .ok (.iload_n 1, 1) := by decide +kernel
theorem dX11_init_111 : decode cX11_init 111 = .ok (.iconst 3, 1) := by decide +kernel
theorem dX11_init_112 : decode cX11_init 112 = .ok (.if_icmp .ge 27, 3) := by decide +kernel
theorem dX11_init_115 : decode cX11_init 115 = .ok (.aload_n 0, 1) := by decide +kernel
theorem dX11_init_116 : decode cX11_init 116 = .ok (.getfield 11, 3) := by decide +kernel
theorem dX11_init_119 : decode cX11_init 119 = .ok (.iload_n 1, 1) := by decide +kernel
theorem dX11_init_120 : decode cX11_init 120 = .ok (.new 9, 3) := by decide +kernel
theorem dX11_init_123 : decode cX11_init 123 = .ok (.dup, 1) := by decide +kernel
theorem dX11_init_124 : decode cX11_init 124 = .ok (.getstatic 70, 3) := by decide +kernel
theorem dX11_init_127 : decode cX11_init 127 = .ok (.iload_n 1, 1) := by decide +kernel
theorem dX11_init_128 : decode cX11_init 128 = .ok (.iaload, 1) := by decide +kernel
theorem dX11_init_129 : decode cX11_init 129 = .ok (.invokespecial 73, 3) := by decide +kernel
theorem dX11_init_132 : decode cX11_init 132 = .ok (.aastore, 1) := by decide +kernel
theorem dX11_init_133 : decode cX11_init 133 = .ok (.iinc 1 1, 3) := by decide +kernel
theorem dX11_init_136 : decode cX11_init 136 = .ok (.goto (-26), 3) := by decide +kernel
theorem dX11_init_139 : decode cX11_init 139 = .ok (.iconst 0, 1) := by decide +kernel
theorem dX11_init_140 : decode cX11_init 140 = .ok (.istore_n 1, 1) := by decide +kernel
theorem dX11_init_141 : decode cX11_init 141 = .ok (.iload_n 1, 1) := by decide +kernel
theorem dX11_init_142 : decode cX11_init 142 = .ok (.iconst 4, 1) := by decide +kernel
theorem dX11_init_143 : decode cX11_init 143 = .ok (.if_icmp .ge 22, 3) := by decide +kernel
theorem dX11_init_146 : decode cX11_init 146 = .ok (.aload_n 0, 1) := by decide +kernel
theorem dX11_init_147 : decode cX11_init 147 = .ok (.getfield 58, 3) := by decide +kernel
theorem dX11_init_150 : decode cX11_init 150 = .ok (.iload_n 1, 1) := by decide +kernel
theorem dX11_init_151 : decode cX11_init 151 = .ok (.new 56, 3) := by decide +kernel
theorem dX11_init_154 : decode cX11_init 154 = .ok (.dup, 1) := by decide +kernel
theorem dX11_init_155 : decode cX11_init 155 = .ok (.invokespecial 76, 3) := by decide +kernel
theorem dX11_init_158 : decode cX11_init 158 = .ok (.aastore, 1) := by decide +kernel
theorem dX11_init_159 : decode cX11_init 159 = .ok (.iinc 1 1, 3) := by decide +kernel
theorem dX11_init_162 : decode cX11_init 162 = .ok (.goto (-21), 3) := by decide +kernel
theorem dX11_init_165 : decode cX11_init 165 = .ok (.new 26, 3) := by decide +kernel
theorem dX11_init_168 : decode cX11_init 168 = .ok (.dup, 1) := by decide +kernel
theorem dX11_init_169 : decode cX11_init 169 = .ok (.invokespecial 28, 3) := by decide +kernel
theorem dX11_init_172 : decode cX11_init 172 = .ok (.astore_n 1, 1) := by decide +kernel
theorem dX11_init_173 : decode cX11_init 173 = .ok (.new 33, 3) := by decide +kernel
theorem dX11_init_176 : decode cX11_init 176 = .ok (.dup, 1) := by decide +kernel
theorem dX11_init_177 : decode cX11_init 177 = .ok (.aload_n 0, 1) := by decide +kernel
theorem dX11_init_178 : decode cX11_init 178 = .ok (.getfield 22, 3) := by decide +kernel
theorem dX11_init_181 : decode cX11_init 181 = .ok (.invokespecial 35, 3) := by decide +kernel
theorem dX11_init_184 : decode cX11_init 184 = .ok (.astore_n 2, 1) := by decide +kernel
theorem dX11_init_185 : decode cX11_init 185 = .ok (.aload_n 0, 1) := by decide +kernel
theorem dX11_init_186 : decode cX11_init 186 = .ok (.new 77, 3) := by decide +kernel
theorem dX11_init_189 : decode cX11_init 189 = .ok (.dup, 1) := by decide +kernel
theorem dX11_init_190 : decode cX11_init 190 = .ok (.aload_n 0, 1) := by decide +kernel
theorem dX11_init_191 : decode cX11_init 191 = .ok (.getfield 22, 3) := by decide +kernel
theorem dX11_init_194 : decode cX11_init 194 = .ok (.aload_n 0, 1) := by decide +kernel
theorem dX11_init_195 : decode cX11_init 195 = .ok (.getfield 29, 3) := by decide +kernel
theorem dX11_init_198 : decode cX11_init 198 = .ok (.aload_n 1, 1) := by decide +kernel
theorem dX11_init_199 : decode cX11_init 199 = .ok (.aload_n 2, 1) := by decide +kernel
theorem dX11_init_200 : decode cX11_init 200 = .ok (.invokespecial 79, 3) := by decide +kernel
theorem dX11_init_203 : decode cX11_init 203 = .ok (.putfield 82, 3) := by decide +kernel
theorem dX11_init_206 : decode cX11_init 206 = .ok (.aload_n 0, 1) := by decide +kernel
theorem dX11_init_207 : decode cX11_init 207 = .ok (.new 86, 3) := by decide +kernel
theorem dX11_init_210 : decode cX11_init 210 = .ok (.dup, 1) := by decide +kernel
theorem dX11_init_211 : decode cX11_init 211 = .ok (.aload_n 0, 1) := by decide +kernel
theorem dX11_init_212 : decode cX11_init 212 = .ok (.getfield 22, 3) := by decide +kernel
theorem dX11_init_215 : decode cX11_init 215 = .ok (.aload_n 0, 1) := by decide +kernel
theorem dX11_init_216 : decode cX11_init 216 = .ok (.getfield 29, 3) := by decide +kernel
theorem dX11_init_219 : decode cX11_init 219 = .ok (.aload_n 1, 1) := by decide +kernel
theorem dX11_init_220 : decode cX11_init 220 = .ok (.aload_n 2, 1) := by decide +kernel
theorem dX11_init_221 : decode cX11_init 221 = .ok (.aload_n 0, 1) := by decide +kernel
theorem dX11_init_222 : decode cX11_init 222 = .ok (.getfield 52, 3) := by decide +kernel
theorem dX11_init_225 : decode cX11_init 225 = .ok (.invokespecial 88, 3) := by decide +kernel
theorem dX11_init_228 : decode cX11_init 228 = .ok (.putfield 91, 3) := by decide +kernel
theorem dX11_init_231 : decode cX11_init 231 = .ok (.aload_n 0, 1) := by decide +kernel
theorem dX11_init_232 : decode cX11_init 232 = .ok (.new 95, 3) := by decide +kernel
theorem dX11_init_235 : decode cX11_init 235 = .ok (.dup, 1) := by decide +kernel
theorem dX11_init_236 : decode cX11_init 236 = .ok (.aload_n 0, 1) := by decide +kernel
theorem dX11_init_237 : decode cX11_init 237 = .ok (.getfield 22, 3) := by decide +kernel
theorem dX11_init_240 : decode cX11_init 240 = .ok (.aload_n 0, 1) := by decide +kernel
theorem dX11_init_241 : decode cX11_init 241 = .ok (.getfield 29, 3) := by decide +kernel
theorem dX11_init_244 : decode cX11_init 244 = .ok (.aload_n 1, 1) := by decide +kernel
theorem dX11_init_245 : decode cX11_init 245 = .ok (.aload_n 2, 1) := by decide +kernel
theorem dX11_init_246 : decode cX11_init 246 = .ok (.invokespecial 97, 3) := by decide +kernel
theorem dX11_init_249 : decode cX11_init 249 = .ok (.putfield 98, 3) := by decide +kernel
theorem dX11_init_252 : decode cX11_init 252 = .ok (.return_, 1) := by decide +kernel
theorem dX11_type_0 : decode cX11_type 0 = .ok (.iload_n 1, 1) := by decide +kernel
theorem dX11_type_1 : decode cX11_type 1 = .ok (.iconst 0, 1) := by decide +kernel
theorem dX11_type_2 : decode cX11_type 2 = .ok (.iconst 2, 1) := by decide +kernel
theorem dX11_type_3 : decode cX11_type 3 = .ok (.invokestatic 102, 3) := by decide +kernel
theorem dX11_type_6 : decode cX11_type 6 = .ok (.ifCond .eq 14, 3) := by decide +kernel
theorem dX11_type_9 : decode cX11_type 9 = .ok (.iload_n 2, 1) := by decide +kernel
theorem dX11_type_10 : decode cX11_type 10 = .ok (.iconst 0, 1) := by decide +kernel
theorem dX11_type_11 : decode cX11_type 11 = .ok (.sipush 255, 3) := by decide +kernel
theorem dX11_type_14 : decode cX11_type 14 = .ok (.invokestatic 102, 3) := by decide +kernel
theorem dX11_type_17 : decode cX11_type 17 = .ok (.ifCond .ne 6, 3) := by decide +kernel
theorem dX11_type_20 : decode cX11_type 20 = .ok (.bipush (-2), 2) := by decide +kernel
theorem dX11_type_22 : decode cX11_type 22 = .ok (.ireturn, 1) := by decide +kernel
theorem dX11_type_23 : decode cX11_type 23 = .ok (.aload_n 0, 1) := by decide +kernel
theorem dX11_type_24 : decode cX11_type 24 = .ok (.getfield 11, 3) := by decide +kernel
theorem dX11_type_27 : decode cX11_type 27 = .ok (.iload_n 1, 1) := by decide +kernel
theorem dX11_type_28 : decode cX11_type 28 = .ok (.aaload, 1) := by decide +kernel
theorem dX11_type_29 : decode cX11_type 29 = .ok (.iload_n 2, 1) := by decide +kernel
theorem dX11_type_30 : decode cX11_type 30 = .ok (.invokevirtual 106, 3) := by decide +kernel
theorem dX11_type_33 : decode cX11_type 33 = .ok (.ifCond .ne 6, 3) := by decide +kernel
theorem dX11_type_36 : decode cX11_type 36 = .ok (.bipush (-4), 2) := by decide +kernel
theorem dX11_type_38 : decode cX11_type 38 = .ok (.ireturn, 1) := by decide +kernel
theorem dX11_type_39 : decode cX11_type 39 = .ok (.aload_n 0, 1) := by decide +kernel
theorem dX11_type_40 : decode cX11_type 40 = .ok (.iload_n 1, 1) := by decide +kernel
theorem dX11_type_41 : decode cX11_type 41 = .ok (.invokevirtual 110, 3) := by decide +kernel
theorem dX11_type_44 : decode cX11_type 44 = .ok (.aload_n 0, 1) := by decide +kernel
theorem dX11_type_45 : decode cX11_type 45 = .ok (.getfield 11, 3) := by decide +kernel
theorem dX11_type_48 : decode cX11_type 48 = .ok (.iload_n 1, 1) := by decide +kernel
theorem dX11_type_49 : decode cX11_type 49 = .ok (.aaload, 1) := by decide +kernel
theorem dX11_type_50 : decode cX11_type 50 = .ok (.getfield 113, 3) := by decide +kernel
theorem dX11_type_53 : decode cX11_type 53 = .ok (.ireturn, 1) := by decide +kernel
theorem dX11_wipe_0 : decode cX11_wipe 0 = .ok (.iload_n 1, 1) := by decide +kernel
theorem dX11_wipe_1 : decode cX11_wipe 1 = .ok (.iconst 0, 1) := by decide +kernel
theorem dX11_wipe_2 : decode cX11_wipe 2 = .ok (.iconst 2, 1) := by decide +kernel
theorem dX11_wipe_3 : decode cX11_wipe 3 = .ok (.invokestatic 102, 3) := by decide +kernel
theorem dX11_wipe_6 : decode cX11_wipe 6 = .ok (.ifCond .ne 6, 3) := by decide +kernel
theorem dX11_wipe_9 : decode cX11_wipe 9 = .ok (.bipush (-2), 2) := by decide +kernel
theorem dX11_wipe_11 : decode cX11_wipe 11 = .ok (.ireturn, 1) := by decide +kernel
theorem dX11_wipe_12 : decode cX11_wipe 12 = .ok (.aload_n 0, 1) := by decide +kernel
theorem dX11_wipe_13 : decode cX11_wipe 13 = .ok (.getfield 11, 3) := by decide +kernel
theorem dX11_wipe_16 : decode cX11_wipe 16 = .ok (.iload_n 1, 1) := by decide +kernel
theorem dX11_wipe_17 : decode cX11_wipe 17 = .ok (.aaload, 1) := by decide +kernel
theorem dX11_wipe_18 : decode cX11_wipe 18 = .ok (.getfield 113, 3) := by decide +kernel
theorem dX11_wipe_21 : decode cX11_wipe 21 = .ok (.istore_n 2, 1) := by decide +kernel
theorem dX11_wipe_22 : decode cX11_wipe 22 = .ok (.aload_n 0, 1) := by decide +kernel
theorem dX11_wipe_23 : decode cX11_wipe 23 = .ok (.getfield 11, 3) := by decide +kernel
theorem dX11_wipe_26 : decode cX11_wipe 26 = .ok (.iload_n 1, 1) := by decide +kernel
theorem dX11_wipe_27 : decode cX11_wipe 27 = .ok (.aaload, 1) := by decide +kernel
theorem dX11_wipe_28 : decode cX11_wipe 28 = .ok (.iconst 0, 1) := by decide +kernel
theorem dX11_wipe_29 : decode cX11_wipe 29 = .ok (.putfield 113, 3) := by decide +kernel
theorem dX11_wipe_32 : decode cX11_wipe 32 = .ok (.aload_n 0, 1) := by decide +kernel
theorem dX11_wipe_33 : decode cX11_wipe 33 = .ok (.iload_n 1, 1) := by decide +kernel
theorem dX11_wipe_34 : decode cX11_wipe 34 = .ok (.invokevirtual 110, 3) := by decide +kernel
theorem dX11_wipe_37 : decode cX11_wipe 37 = .ok (.iload_n 2, 1) := by decide +kernel
theorem dX11_wipe_38 : decode cX11_wipe 38 = .ok (.ireturn, 1) := by decide +kernel
theorem dX11_undo_0 : decode cX11_undo 0 = .ok (.iload_n 1, 1) := by decide +kernel
theorem dX11_undo_1 : decode cX11_undo 1 = .ok (.iconst 0, 1) := by decide +kernel
theorem dX11_undo_2 : decode cX11_undo 2 = .ok (.iconst 2, 1) := by decide +kernel
theorem dX11_undo_3 : decode cX11_undo 3 = .ok (.invokestatic 102, 3) := by decide +kernel
theorem dX11_undo_6 : decode cX11_undo 6 = .ok (.ifCond .ne 6, 3) := by decide +kernel
theorem dX11_undo_9 : decode cX11_undo 9 = .ok (.bipush (-2), 2) := by decide +kernel
theorem dX11_undo_11 : decode cX11_undo 11 = .ok (.ireturn, 1) := by decide +kernel
theorem dX11_undo_12 : decode cX11_undo 12 = .ok (.aload_n 0, 1) := by decide +kernel
theorem dX11_undo_13 : decode cX11_undo 13 = .ok (.getfield 11, 3) := by decide +kernel
theorem dX11_undo_16 : decode cX11_undo 16 = .ok (.iload_n 1, 1) := by decide +kernel
theorem dX11_undo_17 : decode cX11_undo 17 = .ok (.aaload, 1) := by decide +kernel
theorem dX11_undo_18 : decode cX11_undo 18 = .ok (.getfield 113, 3) := by decide +kernel
theorem dX11_undo_21 : decode cX11_undo 21 = .ok (.ifCond .gt 6, 3) := by decide +kernel
theorem dX11_undo_24 : decode cX11_undo 24 = .ok (.bipush (-3), 2) := by decide +kernel
theorem dX11_undo_26 : decode cX11_undo 26 = .ok (.ireturn, 1) := by decide +kernel
theorem dX11_undo_27 : decode cX11_undo 27 = .ok (.aload_n 0, 1) := by decide +kernel
theorem dX11_undo_28 : decode cX11_undo 28 = .ok (.getfield 11, 3) := by decide +kernel
theorem dX11_undo_31 : decode cX11_undo 31 = .ok (.iload_n 1, 1) := by decide +kernel
theorem dX11_undo_32 : decode cX11_undo 32 = .ok (.aaload, 1) := by decide +kernel
theorem dX11_undo_33 : decode cX11_undo 33 = .ok (.dup, 1) := by decide +kernel
theorem dX11_undo_34 : decode cX11_undo 34 = .ok (.getfield 113, 3) := by decide +kernel
theorem dX11_undo_37 : decode cX11_undo 37 = .ok (.iconst 1, 1) := by decide +kernel
theorem dX11_undo_38 : decode cX11_undo 38 = .ok (.isub, 1) := by decide +kernel
theorem dX11_undo_39 : decode cX11_undo 39 = .ok (.putfield 113, 3) := by decide +kernel
theorem dX11_undo_42 : decode cX11_undo 42 = .ok (.aload_n 0, 1) := by decide +kernel
theorem dX11_undo_43 : decode cX11_undo 43 = .ok (.iload_n 1, 1) := by decide +kernel
theorem dX11_undo_44 : decode cX11_undo 44 = .ok (.invokevirtual 110, 3) := by decide +kernel
theorem dX11_undo_47 : decode cX11_undo 47 = .ok (.aload_n 0, 1) := by decide +kernel
theorem dX11_undo_48 : decode cX11_undo 48 = .ok (.getfield 11, 3) := by decide +kernel
theorem dX11_undo_51 : decode cX11_undo 51 = .ok (.iload_n 1, 1) := by decide +kernel
theorem dX11_undo_52 : decode cX11_undo 52 = .ok (.aaload, 1) := by decide +kernel
theorem dX11_undo_53 : decode cX11_undo 53 = .ok (.getfield 113, 3) := by decide +kernel
theorem dX11_undo_56 : decode cX11_undo 56 = .ok (.ireturn, 1) := by decide +kernel
theorem dX11_fault_0 : decode cX11_fault 0 = .ok (.iload_n 1, 1) := by decide +kernel
theorem dX11_fault_1 : decode cX11_fault 1 = .ok (.iconst 0, 1) := by decide +kernel
theorem dX11_fault_2 : decode cX11_fault 2 = .ok (.iconst 2, 1) := by decide +kernel
theorem dX11_fault_3 : decode cX11_fault 3 = .ok (.invokestatic 102, 3) := by decide +kernel
theorem dX11_fault_6 : decode cX11_fault 6 = .ok (.ifCond .eq 12, 3) := by decide +kernel
theorem dX11_fault_9 : decode cX11_fault 9 = .ok (.aload_n 0, 1) := by decide +kernel
theorem dX11_fault_10 : decode cX11_fault 10 = .ok (.getfield 15, 3) := by decide +kernel
theorem dX11_fault_13 : decode cX11_fault 13 = .ok (.iload_n 1, 1) := by decide +kernel
theorem dX11_fault_14 : decode cX11_fault 14 = .ok (.iaload, 1) := by decide +kernel
theorem dX11_fault_15 : decode cX11_fault 15 = .ok (.goto 5, 3) := by decide +kernel
theorem dX11_fault_18 : decode cX11_fault 18 = .ok (.bipush (-2), 2) := by decide +kernel
theorem dX11_fault_20 : decode cX11_fault 20 = .ok (.ireturn, 1) := by decide +kernel
theorem dX11_cell_0 : decode cX11_cell 0 = .ok (.iload_n 1, 1) := by decide +kernel
theorem dX11_cell_1 : decode cX11_cell 1 = .ok (.iconst 0, 1) := by decide +kernel
theorem dX11_cell_2 : decode cX11_cell 2 = .ok (.bipush 35, 2) := by decide +kernel
theorem dX11_cell_4 : decode cX11_cell 4 = .ok (.invokestatic 102, 3) := by decide +kernel
theorem dX11_cell_7 : decode cX11_cell 7 = .ok (.ifCond .ne 6, 3) := by decide +kernel
theorem dX11_cell_10 : decode cX11_cell 10 = .ok (.bipush (-2), 2) := by decide +kernel
theorem dX11_cell_12 : decode cX11_cell 12 = .ok (.ireturn, 1) := by decide +kernel
theorem dX11_cell_13 : decode cX11_cell 13 = .ok (.iload_n 1, 1) := by decide +kernel
theorem dX11_cell_14 : decode cX11_cell 14 = .ok (.aload_n 0, 1) := by decide +kernel
theorem dX11_cell_15 : decode cX11_cell 15 = .ok (.getfield 22, 3) := by decide +kernel
theorem dX11_cell_18 : decode cX11_cell 18 = .ok (.getfield 116, 3) := by decide +kernel
theorem dX11_cell_21 : decode cX11_cell 21 = .ok (.if_icmp .lt 5, 3) := by decide +kernel
theorem dX11_cell_24 : decode cX11_cell 24 = .ok (.iconst (-1), 1) := by decide +kernel
theorem dX11_cell_25 : decode cX11_cell 25 = .ok (.ireturn, 1) := by decide +kernel
theorem dX11_cell_26 : decode cX11_cell 26 = .ok (.aload_n 0, 1) := by decide +kernel
theorem dX11_cell_27 : decode cX11_cell 27 = .ok (.getfield 22, 3) := by decide +kernel
theorem dX11_cell_30 : decode cX11_cell 30 = .ok (.iload_n 1, 1) := by decide +kernel
theorem dX11_cell_31 : decode cX11_cell 31 = .ok (.invokevirtual 119, 3) := by decide +kernel
theorem dX11_cell_34 : decode cX11_cell 34 = .ok (.ifCond .eq 7, 3) := by decide +kernel
theorem dX11_cell_37 : decode cX11_cell 37 = .ok (.iconst 0, 1) := by decide +kernel
theorem dX11_cell_38 : decode cX11_cell 38 = .ok (.goto 4, 3) := by decide +kernel
theorem dX11_cell_41 : decode cX11_cell 41 = .ok (.iconst 1, 1) := by decide +kernel
theorem dX11_cell_42 : decode cX11_cell 42 = .ok (.ireturn, 1) := by decide +kernel
theorem dX11_thing_0 : decode cX11_thing 0 = .ok (.aload_n 0, 1) := by decide +kernel
theorem dX11_thing_1 : decode cX11_thing 1 = .ok (.iload_n 1, 1) := by decide +kernel
theorem dX11_thing_2 : decode cX11_thing 2 = .ok (.invokevirtual 122, 3) := by decide +kernel
theorem dX11_thing_5 : decode cX11_thing 5 = .ok (.ifCond .ne 6, 3) := by decide +kernel
theorem dX11_thing_8 : decode cX11_thing 8 = .ok (.bipush (-2), 2) := by decide +kernel
theorem dX11_thing_10 : decode cX11_thing 10 = .ok (.ireturn, 1) := by decide +kernel
theorem dX11_thing_11 : decode cX11_thing 11 = .ok (.iload_n 2, 1) := by decide +kernel
theorem dX11_thing_12 : decode cX11_thing 12 = .ok (.tableswitch 58 0 2 #[28, 38, 48], 28) := by decide +kernel
theorem dX11_thing_40 : decode cX11_thing 40 = .ok (.aload_n 0, 1) := by decide +kernel
theorem dX11_thing_41 : decode cX11_thing 41 = .ok (.getfield 29, 3) := by decide +kernel
theorem dX11_thing_44 : decode cX11_thing 44 = .ok (.getfield 125, 3) := by decide +kernel
theorem dX11_thing_47 : decode cX11_thing 47 = .ok (.iload_n 1, 1) := by decide +kernel
theorem dX11_thing_48 : decode cX11_thing 48 = .ok (.iaload, 1) := by decide +kernel
theorem dX11_thing_49 : decode cX11_thing 49 = .ok (.ireturn, 1) := by decide +kernel
theorem dX11_thing_50 : decode cX11_thing 50 = .ok (.aload_n 0, 1) := by decide +kernel
theorem dX11_thing_51 : decode cX11_thing 51 = .ok (.getfield 29, 3) := by decide +kernel
theorem dX11_thing_54 : decode cX11_thing 54 = .ok (.getfield 128, 3) := by decide +kernel
theorem dX11_thing_57 : decode cX11_thing 57 = .ok (.iload_n 1, 1) := by decide +kernel
theorem dX11_thing_58 : decode cX11_thing 58 = .ok (.iaload, 1) := by decide +kernel
theorem dX11_thing_59 : decode cX11_thing 59 = .ok (.ireturn, 1) := by decide +kernel
theorem dX11_thing_60 : decode cX11_thing 60 = .ok (.aload_n 0, 1) := by decide +kernel
theorem dX11_thing_61 : decode cX11_thing 61 = .ok (.getfield 29, 3) := by decide +kernel
theorem dX11_thing_64 : decode cX11_thing 64 = .ok (.getfield 131, 3) := by decide +kernel
theorem dX11_thing_67 : decode cX11_thing 67 = .ok (.iload_n 1, 1) := by decide +kernel
theorem dX11_thing_68 : decode cX11_thing 68 = .ok (.iaload, 1) := by decide +kernel
theorem dX11_thing_69 : decode cX11_thing 69 = .ok (.ireturn, 1) := by decide +kernel
theorem dX11_thing_70 : decode cX11_thing 70 = .ok (.bipush (-2), 2) := by decide +kernel
theorem dX11_thing_72 : decode cX11_thing 72 = .ok (.ireturn, 1) := by decide +kernel
theorem dX11_wind_0 : decode cX11_wind 0 = .ok (.iload_n 1, 1) := by decide +kernel
theorem dX11_wind_1 : decode cX11_wind 1 = .ok (.iconst 0, 1) := by decide +kernel
theorem dX11_wind_2 : decode cX11_wind 2 = .ok (.bipush 19, 2) := by decide +kernel
theorem dX11_wind_4 : decode cX11_wind 4 = .ok (.invokestatic 102, 3) := by decide +kernel
theorem dX11_wind_7 : decode cX11_wind 7 = .ok (.ifCond .eq 15, 3) := by decide +kernel
theorem dX11_wind_10 : decode cX11_wind 10 = .ok (.aload_n 0, 1) := by decide +kernel
theorem dX11_wind_11 : decode cX11_wind 11 = .ok (.getfield 29, 3) := by decide +kernel
theorem dX11_wind_14 : decode cX11_wind 14 = .ok (.getfield 134, 3) := by decide +kernel
theorem dX11_wind_17 : decode cX11_wind 17 = .ok (.iload_n 1, 1) := by decide +kernel
theorem dX11_wind_18 : decode cX11_wind 18 = .ok (.iaload, 1) := by decide +kernel
theorem dX11_wind_19 : decode cX11_wind 19 = .ok (.goto 5, 3) := by decide +kernel
theorem dX11_wind_22 : decode cX11_wind 22 = .ok (.bipush (-2), 2) := by decide +kernel
theorem dX11_wind_24 : decode cX11_wind 24 = .ok (.ireturn, 1) := by decide +kernel
theorem dX11_widens_0 : decode cX11_widens 0 = .ok (.iload_n 1, 1) := by decide +kernel
theorem dX11_widens_1 : decode cX11_widens 1 = .ok (.iconst 1, 1) := by decide +kernel
theorem dX11_widens_2 : decode cX11_widens 2 = .ok (.iconst 4, 1) := by decide +kernel
theorem dX11_widens_3 : decode cX11_widens 3 = .ok (.invokestatic 102, 3) := by decide +kernel
theorem dX11_widens_6 : decode cX11_widens 6 = .ok (.ifCond .ne 6, 3) := by decide +kernel
theorem dX11_widens_9 : decode cX11_widens 9 = .ok (.bipush (-2), 2) := by decide +kernel
theorem dX11_widens_11 : decode cX11_widens 11 = .ok (.ireturn, 1) := by decide +kernel
theorem dX11_widens_12 : decode cX11_widens 12 = .ok (.aload_n 0, 1) := by decide +kernel
theorem dX11_widens_13 : decode cX11_widens 13 = .ok (.getfield 29, 3) := by decide +kernel
theorem dX11_widens_16 : decode cX11_widens 16 = .ok (.getfield 137, 3) := by decide +kernel
theorem dX11_widens_19 : decode cX11_widens 19 = .ok (.istore_n 2, 1) := by decide +kernel
theorem dX11_widens_20 : decode cX11_widens 20 = .ok (.aload_n 0, 1) := by decide +kernel
theorem dX11_widens_21 : decode cX11_widens 21 = .ok (.getfield 29, 3) := by decide +kernel
theorem dX11_widens_24 : decode cX11_widens 24 = .ok (.iload_n 1, 1) := by decide +kernel
theorem dX11_widens_25 : decode cX11_widens 25 = .ok (.putfield 137, 3) := by decide +kernel
theorem dX11_widens_28 : decode cX11_widens 28 = .ok (.aload_n 0, 1) := by decide +kernel
theorem dX11_widens_29 : decode cX11_widens 29 = .ok (.iconst 0, 1) := by decide +kernel
theorem dX11_widens_30 : decode cX11_widens 30 = .ok (.putfield 66, 3) := by decide +kernel
theorem dX11_widens_33 : decode cX11_widens 33 = .ok (.iload_n 2, 1) := by decide +kernel
theorem dX11_widens_34 : decode cX11_widens 34 = .ok (.ireturn, 1) := by decide +kernel
theorem dX11_blow_0 : decode cX11_blow 0 = .ok (.iload_n 1, 1) := by decide +kernel
theorem dX11_blow_1 : decode cX11_blow 1 = .ok (.iload_n 2, 1) := by decide +kernel
theorem dX11_blow_2 : decode cX11_blow 2 = .ok (.iload_n 3, 1) := by decide +kernel
theorem dX11_blow_3 : decode cX11_blow 3 = .ok (.iload 4, 2) := by decide +kernel
theorem dX11_blow_5 : decode cX11_blow 5 = .ok (.iload 5, 2) := by decide +kernel
theorem dX11_blow_7 : decode cX11_blow 7 = .ok (.invokestatic 140, 3) := by decide +kernel
theorem dX11_blow_10 : decode cX11_blow 10 = .ok (.ifCond .ne 6, 3) := by decide +kernel
theorem dX11_blow_13 : decode cX11_blow 13 = .ok (.bipush (-2), 2) := by decide +kernel
theorem dX11_blow_15 : decode cX11_blow 15 = .ok (.ireturn, 1) := by decide +kernel
theorem dX11_blow_16 : decode cX11_blow 16 = .ok (.aload_n 0, 1) := by decide +kernel
theorem dX11_blow_17 : decode cX11_blow 17 = .ok (.getfield 29, 3) := by decide +kernel
theorem dX11_blow_20 : decode cX11_blow 20 = .ok (.getfield 144, 3) := by decide +kernel
theorem dX11_blow_23 : decode cX11_blow 23 = .ok (.bipush 8, 2) := by decide +kernel
theorem dX11_blow_25 : decode cX11_blow 25 = .ok (.if_icmp .lt 6, 3) := by decide +kernel
theorem dX11_blow_28 : decode cX11_blow 28 = .ok (.bipush (-4), 2) := by decide +kernel
theorem dX11_blow_30 : decode cX11_blow 30 = .ok (.ireturn, 1) := by decide +kernel
theorem dX11_blow_31 : decode cX11_blow 31 = .ok (.aload_n 0, 1) := by decide +kernel
theorem dX11_blow_32 : decode cX11_blow 32 = .ok (.getfield 29, 3) := by decide +kernel
theorem dX11_blow_35 : decode cX11_blow 35 = .ok (.iload_n 1, 1) := by decide +kernel
theorem dX11_blow_36 : decode cX11_blow 36 = .ok (.iload_n 2, 1) := by decide +kernel
theorem dX11_blow_37 : decode cX11_blow 37 = .ok (.iload_n 3, 1) := by decide +kernel
theorem dX11_blow_38 : decode cX11_blow 38 = .ok (.iload 4, 2) := by decide +kernel
theorem dX11_blow_40 : decode cX11_blow 40 = .ok (.iload 5, 2) := by decide +kernel
theorem dX11_blow_42 : decode cX11_blow 42 = .ok (.invokevirtual 147, 3) := by decide +kernel
theorem dX11_blow_45 : decode cX11_blow 45 = .ok (.aload_n 0, 1) := by decide +kernel
theorem dX11_blow_46 : decode cX11_blow 46 = .ok (.iconst 0, 1) := by decide +kernel
theorem dX11_blow_47 : decode cX11_blow 47 = .ok (.putfield 66, 3) := by decide +kernel
theorem dX11_blow_50 : decode cX11_blow 50 = .ok (.aload_n 0, 1) := by decide +kernel
theorem dX11_blow_51 : decode cX11_blow 51 = .ok (.getfield 29, 3) := by decide +kernel
theorem dX11_blow_54 : decode cX11_blow 54 = .ok (.getfield 144, 3) := by decide +kernel
theorem dX11_blow_57 : decode cX11_blow 57 = .ok (.ireturn, 1) := by decide +kernel
theorem dX11_ring_0 : decode cX11_ring 0 = .ok (.aload_n 0, 1) := by decide +kernel
theorem dX11_ring_1 : decode cX11_ring 1 = .ok (.iload_n 1, 1) := by decide +kernel
theorem dX11_ring_2 : decode cX11_ring 2 = .ok (.invokevirtual 151, 3) := by decide +kernel
theorem dX11_ring_5 : decode cX11_ring 5 = .ok (.ifCond .ne 6, 3) := by decide +kernel
theorem dX11_ring_8 : decode cX11_ring 8 = .ok (.bipush (-2), 2) := by decide +kernel
theorem dX11_ring_10 : decode cX11_ring 10 = .ok (.ireturn, 1) := by decide +kernel
theorem dX11_ring_11 : decode cX11_ring 11 = .ok (.iload_n 2, 1) := by decide +kernel
theorem dX11_ring_12 : decode cX11_ring 12 = .ok (.tableswitch 86 0 4 #[36, 46, 56, 66, 76], 36) := by decide +kernel
theorem dX11_ring_48 : decode cX11_ring 48 = .ok (.aload_n 0, 1) := by decide +kernel
theorem dX11_ring_49 : decode cX11_ring 49 = .ok (.getfield 29, 3) := by decide +kernel
theorem dX11_ring_52 : decode cX11_ring 52 = .ok (.getfield 154, 3) := by decide +kernel
theorem dX11_ring_55 : decode cX11_ring 55 = .ok (.iload_n 1, 1) := by decide +kernel
theorem dX11_ring_56 : decode cX11_ring 56 = .ok (.iaload, 1) := by decide +kernel
theorem dX11_ring_57 : decode cX11_ring 57 = .ok (.ireturn, 1) := by decide +kernel
theorem dX11_ring_58 : decode cX11_ring 58 = .ok (.aload_n 0, 1) := by decide +kernel
theorem dX11_ring_59 : decode cX11_ring 59 = .ok (.getfield 29, 3) := by decide +kernel
theorem dX11_ring_62 : decode cX11_ring 62 = .ok (.getfield 157, 3) := by decide +kernel
theorem dX11_ring_65 : decode cX11_ring 65 = .ok (.iload_n 1, 1) := by decide +kernel
theorem dX11_ring_66 : decode cX11_ring 66 = .ok (.iaload, 1) := by decide +kernel
theorem dX11_ring_67 : decode cX11_ring 67 = .ok (.ireturn, 1) := by decide +kernel
theorem dX11_ring_68 : decode cX11_ring 68 = .ok (.aload_n 0, 1) := by decide +kernel
theorem dX11_ring_69 : decode cX11_ring 69 = .ok (.getfield 29, 3) := by decide +kernel
theorem dX11_ring_72 : decode cX11_ring 72 = .ok (.getfield 160, 3) := by decide +kernel
theorem dX11_ring_75 : decode cX11_ring 75 = .ok (.iload_n 1, 1) := by decide +kernel
theorem dX11_ring_76 : decode cX11_ring 76 = .ok (.iaload, 1) := by decide +kernel
theorem dX11_ring_77 : decode cX11_ring 77 = .ok (.ireturn, 1) := by decide +kernel
theorem dX11_ring_78 : decode cX11_ring 78 = .ok (.aload_n 0, 1) := by decide +kernel
theorem dX11_ring_79 : decode cX11_ring 79 = .ok (.getfield 29, 3) := by decide +kernel
theorem dX11_ring_82 : decode cX11_ring 82 = .ok (.getfield 163, 3) := by decide +kernel
theorem dX11_ring_85 : decode cX11_ring 85 = .ok (.iload_n 1, 1) := by decide +kernel
theorem dX11_ring_86 : decode cX11_ring 86 = .ok (.iaload, 1) := by decide +kernel
theorem dX11_ring_87 : decode cX11_ring 87 = .ok (.ireturn, 1) := by decide +kernel
theorem dX11_ring_88 : decode cX11_ring 88 = .ok (.aload_n 0, 1) := by decide +kernel
theorem dX11_ring_89 : decode cX11_ring 89 = .ok (.getfield 29, 3) := by decide +kernel
theorem dX11_ring_92 : decode cX11_ring 92 = .ok (.getfield 166, 3) := by decide +kernel
theorem dX11_ring_95 : decode cX11_ring 95 = .ok (.iload_n 1, 1) := by decide +kernel
theorem dX11_ring_96 : decode cX11_ring 96 = .ok (.iaload, 1) := by decide +kernel
theorem dX11_ring_97 : decode cX11_ring 97 = .ok (.ireturn, 1) := by decide +kernel
theorem dX11_ring_98 : decode cX11_ring 98 = .ok (.bipush (-2), 2) := by decide +kernel
theorem dX11_ring_100 : decode cX11_ring 100 = .ok (.ireturn, 1) := by decide +kernel
theorem dX11_back_0 : decode cX11_back 0 = .ok (.aload_n 0, 1) := by decide +kernel
theorem dX11_back_1 : decode cX11_back 1 = .ok (.getfield 29, 3) := by decide +kernel
theorem dX11_back_4 : decode cX11_back 4 = .ok (.getfield 144, 3) := by decide +kernel
theorem dX11_back_7 : decode cX11_back 7 = .ok (.ifCond .gt 6, 3) := by decide +kernel
theorem dX11_back_10 : decode cX11_back 10 = .ok (.bipush (-3), 2) := by decide +kernel
theorem dX11_back_12 : decode cX11_back 12 = .ok (.ireturn, 1) := by decide +kernel
theorem dX11_back_13 : decode cX11_back 13 = .ok (.aload_n 0, 1) := by decide +kernel
theorem dX11_back_14 : decode cX11_back 14 = .ok (.getfield 29, 3) := by decide +kernel
theorem dX11_back_17 : decode cX11_back 17 = .ok (.dup, 1) := by decide +kernel
theorem dX11_back_18 : decode cX11_back 18 = .ok (.getfield 144, 3) := by decide +kernel
theorem dX11_back_21 : decode cX11_back 21 = .ok (.iconst 1, 1) := by decide +kernel
theorem dX11_back_22 : decode cX11_back 22 = .ok (.isub, 1) := by decide +kernel
theorem dX11_back_23 : decode cX11_back 23 = .ok (.putfield 144, 3) := by decide +kernel
theorem dX11_back_26 : decode cX11_back 26 = .ok (.aload_n 0, 1) := by decide +kernel
theorem dX11_back_27 : decode cX11_back 27 = .ok (.iconst 0, 1) := by decide +kernel
theorem dX11_back_28 : decode cX11_back 28 = .ok (.putfield 66, 3) := by decide +kernel
theorem dX11_back_31 : decode cX11_back 31 = .ok (.aload_n 0, 1) := by decide +kernel
theorem dX11_back_32 : decode cX11_back 32 = .ok (.getfield 29, 3) := by decide +kernel
theorem dX11_back_35 : decode cX11_back 35 = .ok (.getfield 144, 3) := by decide +kernel
theorem dX11_back_38 : decode cX11_back 38 = .ok (.ireturn, 1) := by decide +kernel
theorem dX11_read_0 : decode cX11_read 0 = .ok (.iload_n 1, 1) := by decide +kernel
theorem dX11_read_1 : decode cX11_read 1 = .ok (.iconst 0, 1) := by decide +kernel
theorem dX11_read_2 : decode cX11_read 2 = .ok (.iconst 3, 1) := by decide +kernel
theorem dX11_read_3 : decode cX11_read 3 = .ok (.invokestatic 102, 3) := by decide +kernel
theorem dX11_read_6 : decode cX11_read 6 = .ok (.ifCond .ne 6, 3) := by decide +kernel
theorem dX11_read_9 : decode cX11_read 9 = .ok (.bipush (-2), 2) := by decide +kernel
theorem dX11_read_11 : decode cX11_read 11 = .ok (.ireturn, 1) := by decide +kernel
theorem dX11_read_12 : decode cX11_read 12 = .ok (.aload_n 0, 1) := by decide +kernel
theorem dX11_read_13 : decode cX11_read 13 = .ok (.getfield 58, 3) := by decide +kernel
theorem dX11_read_16 : decode cX11_read 16 = .ok (.iload_n 1, 1) := by decide +kernel
theorem dX11_read_17 : decode cX11_read 17 = .ok (.aaload, 1) := by decide +kernel
theorem dX11_read_18 : decode cX11_read 18 = .ok (.astore_n 2, 1) := by decide +kernel
theorem dX11_read_19 : decode cX11_read 19 = .ok (.aload_n 2, 1) := by decide +kernel
theorem dX11_read_20 : decode cX11_read 20 = .ok (.invokevirtual 169, 3) := by decide +kernel
theorem dX11_read_23 : decode cX11_read 23 = .ok (.ifCond .eq 9, 3) := by decide +kernel
theorem dX11_read_26 : decode cX11_read 26 = .ok (.aload_n 0, 1) := by decide +kernel
theorem dX11_read_27 : decode cX11_read 27 = .ok (.iconst 1, 1) := by decide +kernel
theorem dX11_read_28 : decode cX11_read 28 = .ok (.invokevirtual 173, 3) := by decide +kernel
theorem dX11_read_31 : decode cX11_read 31 = .ok (.ireturn, 1) := by decide +kernel
theorem dX11_read_32 : decode cX11_read 32 = .ok (.iconst 0, 1) := by decide +kernel
theorem dX11_read_33 : decode cX11_read 33 = .ok (.istore_n 3, 1) := by decide +kernel
theorem dX11_read_34 : decode cX11_read 34 = .ok (.iconst 0, 1) := by decide +kernel
theorem dX11_read_35 : decode cX11_read 35 = .ok (.istore 4, 2) := by decide +kernel
theorem dX11_read_37 : decode cX11_read 37 = .ok (.iload 4, 2) := by decide +kernel
theorem dX11_read_39 : decode cX11_read 39 = .ok (.iconst 5, 1) := by decide +kernel
theorem dX11_read_40 : decode cX11_read 40 = .ok (.iadd, 1) := by decide +kernel
theorem dX11_read_41 : decode cX11_read 41 = .ok (.aload_n 2, 1) := by decide +kernel
theorem dX11_read_42 : decode cX11_read 42 = .ok (.getfield 177, 3) := by decide +kernel
theorem dX11_read_45 : decode cX11_read 45 = .ok (.if_icmp .gt 108, 3) := by decide +kernel
theorem dX11_read_48 : decode cX11_read 48 = .ok (.aload_n 0, 1) := by decide +kernel
theorem dX11_read_49 : decode cX11_read 49 = .ok (.getfield 29, 3) := by decide +kernel
theorem dX11_read_52 : decode cX11_read 52 = .ok (.getfield 144, 3) := by decide +kernel
theorem dX11_read_55 : decode cX11_read 55 = .ok (.bipush 8, 2) := by decide +kernel
theorem dX11_read_57 : decode cX11_read 57 = .ok (.if_icmp .ge 96, 3) := by decide +kernel
theorem dX11_read_60 : decode cX11_read 60 = .ok (.aload_n 2, 1) := by decide +kernel
theorem dX11_read_61 : decode cX11_read 61 = .ok (.iload 4, 2) := by decide +kernel
theorem dX11_read_63 : decode cX11_read 63 = .ok (.invokevirtual 178, 3) := by decide +kernel
theorem dX11_read_66 : decode cX11_read 66 = .ok (.istore 5, 2) := by decide +kernel
theorem dX11_read_68 : decode cX11_read 68 = .ok (.aload_n 2, 1) := by decide +kernel
theorem dX11_read_69 : decode cX11_read 69 = .ok (.iload 4, 2) := by decide +kernel
theorem dX11_read_71 : decode cX11_read 71 = .ok (.iconst 1, 1) := by decide +kernel
theorem dX11_read_72 : decode cX11_read 72 = .ok (.iadd, 1) := by decide +kernel
theorem dX11_read_73 : decode cX11_read 73 = .ok (.invokevirtual 178, 3) := by decide +kernel
theorem dX11_read_76 : decode cX11_read 76 = .ok (.istore 6, 2) := by decide +kernel
theorem dX11_read_78 : decode cX11_read 78 = .ok (.aload_n 2, 1) := by decide +kernel
theorem dX11_read_79 : decode cX11_read 79 = .ok (.iload 4, 2) := by decide +kernel
theorem dX11_read_81 : decode cX11_read 81 = .ok (.iconst 2, 1) := by decide +kernel
theorem dX11_read_82 : decode cX11_read 82 = .ok (.iadd, 1) := by decide +kernel
theorem dX11_read_83 : decode cX11_read 83 = .ok (.invokevirtual 178, 3) := by decide +kernel
theorem dX11_read_86 : decode cX11_read 86 = .ok (.istore 7, 2) := by decide +kernel
theorem dX11_read_88 : decode cX11_read 88 = .ok (.aload_n 2, 1) := by decide +kernel
theorem dX11_read_89 : decode cX11_read 89 = .ok (.iload 4, 2) := by decide +kernel
theorem dX11_read_91 : decode cX11_read 91 = .ok (.iconst 3, 1) := by decide +kernel
theorem dX11_read_92 : decode cX11_read 92 = .ok (.iadd, 1) := by decide +kernel
theorem dX11_read_93 : decode cX11_read 93 = .ok (.invokevirtual 178, 3) := by decide +kernel
theorem dX11_read_96 : decode cX11_read 96 = .ok (.istore 8, 2) := by decide +kernel
theorem dX11_read_98 : decode cX11_read 98 = .ok (.aload_n 2, 1) := by decide +kernel
theorem dX11_read_99 : decode cX11_read 99 = .ok (.iload 4, 2) := by decide +kernel
theorem dX11_read_101 : decode cX11_read 101 = .ok (.iconst 4, 1) := by decide +kernel
theorem dX11_read_102 : decode cX11_read 102 = .ok (.iadd, 1) := by decide +kernel
theorem dX11_read_103 : decode cX11_read 103 = .ok (.invokevirtual 178, 3) := by decide +kernel
theorem dX11_read_106 : decode cX11_read 106 = .ok (.istore 9, 2) := by decide +kernel
theorem dX11_read_108 : decode cX11_read 108 = .ok (.iload 5, 2) := by decide +kernel
theorem dX11_read_110 : decode cX11_read 110 = .ok (.iload 6, 2) := by decide +kernel
theorem dX11_read_112 : decode cX11_read 112 = .ok (.iload 7, 2) := by decide +kernel
theorem dX11_read_114 : decode cX11_read 114 = .ok (.iload 8, 2) := by decide +kernel
theorem dX11_read_116 : decode cX11_read 116 = .ok (.iload 9, 2) := by decide +kernel
theorem dX11_read_118 : decode cX11_read 118 = .ok (.invokestatic 140, 3) := by decide +kernel
theorem dX11_read_121 : decode cX11_read 121 = .ok (.ifCond .ne 6, 3) := by decide +kernel
theorem dX11_read_124 : decode cX11_read 124 = .ok (.goto 29, 3) := by decide +kernel
theorem dX11_read_127 : decode cX11_read 127 = .ok (.aload_n 0, 1) := by decide +kernel
theorem dX11_read_128 : decode cX11_read 128 = .ok (.getfield 29, 3) := by decide +kernel
theorem dX11_read_131 : decode cX11_read 131 = .ok (.iload 5, 2) := by decide +kernel
theorem dX11_read_133 : decode cX11_read 133 = .ok (.iload 6, 2) := by decide +kernel
theorem dX11_read_135 : decode cX11_read 135 = .ok (.iload 7, 2) := by decide +kernel
theorem dX11_read_137 : decode cX11_read 137 = .ok (.iload 8, 2) := by decide +kernel
theorem dX11_read_139 : decode cX11_read 139 = .ok (.iload 9, 2) := by decide +kernel
theorem dX11_read_141 : decode cX11_read 141 = .ok (.invokevirtual 147, 3) := by decide +kernel
theorem dX11_read_144 : decode cX11_read 144 = .ok (.iinc 3 1, 3) := by decide +kernel
theorem dX11_read_147 : decode cX11_read 147 = .ok (.iinc 4 5, 3) := by decide +kernel
theorem dX11_read_150 : decode cX11_read 150 = .ok (.goto (-113), 3) := by decide +kernel
theorem dX11_read_153 : decode cX11_read 153 = .ok (.aload_n 0, 1) := by decide +kernel
theorem dX11_read_154 : decode cX11_read 154 = .ok (.iconst 0, 1) := by decide +kernel
theorem dX11_read_155 : decode cX11_read 155 = .ok (.putfield 66, 3) := by decide +kernel
theorem dX11_read_158 : decode cX11_read 158 = .ok (.iload_n 3, 1) := by decide +kernel
theorem dX11_read_159 : decode cX11_read 159 = .ok (.ireturn, 1) := by decide +kernel
theorem dX11_at_0 : decode cX11_at 0 = .ok (.iload_n 1, 1) := by decide +kernel
theorem dX11_at_1 : decode cX11_at 1 = .ok (.iconst 0, 1) := by decide +kernel
theorem dX11_at_2 : decode cX11_at 2 = .ok (.bipush 19, 2) := by decide +kernel
theorem dX11_at_4 : decode cX11_at 4 = .ok (.invokestatic 102, 3) := by decide +kernel
theorem dX11_at_7 : decode cX11_at 7 = .ok (.ifCond .eq 20, 3) := by decide +kernel
theorem dX11_at_10 : decode cX11_at 10 = .ok (.aload_n 0, 1) := by decide +kernel
theorem dX11_at_11 : decode cX11_at 11 = .ok (.iload_n 2, 1) := by decide +kernel
theorem dX11_at_12 : decode cX11_at 12 = .ok (.invokevirtual 151, 3) := by decide +kernel
theorem dX11_at_15 : decode cX11_at 15 = .ok (.ifCond .eq 12, 3) := by decide +kernel
theorem dX11_at_18 : decode cX11_at 18 = .ok (.iload_n 3, 1) := by decide +kernel
theorem dX11_at_19 : decode cX11_at 19 = .ok (.iconst 0, 1) := by decide +kernel
theorem dX11_at_20 : decode cX11_at 20 = .ok (.iconst 3, 1) := by decide +kernel
theorem dX11_at_21 : decode cX11_at 21 = .ok (.invokestatic 102, 3) := by decide +kernel
theorem dX11_at_24 : decode cX11_at 24 = .ok (.ifCond .ne 6, 3) := by decide +kernel
theorem dX11_at_27 : decode cX11_at 27 = .ok (.bipush (-2), 2) := by decide +kernel
theorem dX11_at_29 : decode cX11_at 29 = .ok (.ireturn, 1) := by decide +kernel
theorem dX11_at_30 : decode cX11_at 30 = .ok (.aload_n 0, 1) := by decide +kernel
theorem dX11_at_31 : decode cX11_at 31 = .ok (.invokevirtual 181, 3) := by decide +kernel
theorem dX11_at_34 : decode cX11_at 34 = .ok (.aload_n 0, 1) := by decide +kernel
theorem dX11_at_35 : decode cX11_at 35 = .ok (.getfield 45, 3) := by decide +kernel
theorem dX11_at_38 : decode cX11_at 38 = .ok (.iload_n 1, 1) := by decide +kernel
theorem dX11_at_39 : decode cX11_at 39 = .ok (.iload_n 2, 1) := by decide +kernel
theorem dX11_at_40 : decode cX11_at 40 = .ok (.iload_n 3, 1) := by decide +kernel
theorem dX11_at_41 : decode cX11_at 41 = .ok (.invokevirtual 184, 3) := by decide +kernel
theorem dX11_at_44 : decode cX11_at 44 = .ok (.ireturn, 1) := by decide +kernel
theorem dX11_bound_0 : decode cX11_bound 0 = .ok (.aload_n 0, 1) := by decide +kernel
theorem dX11_bound_1 : decode cX11_bound 1 = .ok (.iload_n 1, 1) := by decide +kernel
theorem dX11_bound_2 : decode cX11_bound 2 = .ok (.invokevirtual 122, 3) := by decide +kernel
theorem dX11_bound_5 : decode cX11_bound 5 = .ok (.ifCond .ne 6, 3) := by decide +kernel
theorem dX11_bound_8 : decode cX11_bound 8 = .ok (.bipush (-2), 2) := by decide +kernel
theorem dX11_bound_10 : decode cX11_bound 10 = .ok (.ireturn, 1) := by decide +kernel
theorem dX11_bound_11 : decode cX11_bound 11 = .ok (.aload_n 0, 1) := by decide +kernel
theorem dX11_bound_12 : decode cX11_bound 12 = .ok (.invokevirtual 181, 3) := by decide +kernel
theorem dX11_bound_15 : decode cX11_bound 15 = .ok (.iload_n 2, 1) := by decide +kernel
theorem dX11_bound_16 : decode cX11_bound 16 = .ok (.tableswitch 58 0 2 #[28, 38, 48], 28) := by decide +kernel
theorem dX11_bound_44 : decode cX11_bound 44 = .ok (.aload_n 0, 1) := by decide +kernel
theorem dX11_bound_45 : decode cX11_bound 45 = .ok (.getfield 38, 3) := by decide +kernel
theorem dX11_bound_48 : decode cX11_bound 48 = .ok (.getfield 188, 3) := by decide +kernel
theorem dX11_bound_51 : decode cX11_bound 51 = .ok (.iload_n 1, 1) := by decide +kernel
theorem dX11_bound_52 : decode cX11_bound 52 = .ok (.iaload, 1) := by decide +kernel
theorem dX11_bound_53 : decode cX11_bound 53 = .ok (.ireturn, 1) := by decide +kernel
theorem dX11_bound_54 : decode cX11_bound 54 = .ok (.aload_n 0, 1) := by decide +kernel
theorem dX11_bound_55 : decode cX11_bound 55 = .ok (.getfield 38, 3) := by decide +kernel
theorem dX11_bound_58 : decode cX11_bound 58 = .ok (.getfield 191, 3) := by decide +kernel
theorem dX11_bound_61 : decode cX11_bound 61 = .ok (.iload_n 1, 1) := by decide +kernel
theorem dX11_bound_62 : decode cX11_bound 62 = .ok (.iaload, 1) := by decide +kernel
theorem dX11_bound_63 : decode cX11_bound 63 = .ok (.ireturn, 1) := by decide +kernel
theorem dX11_bound_64 : decode cX11_bound 64 = .ok (.aload_n 0, 1) := by decide +kernel
theorem dX11_bound_65 : decode cX11_bound 65 = .ok (.getfield 38, 3) := by decide +kernel
theorem dX11_bound_68 : decode cX11_bound 68 = .ok (.getfield 194, 3) := by decide +kernel
theorem dX11_bound_71 : decode cX11_bound 71 = .ok (.iload_n 1, 1) := by decide +kernel
theorem dX11_bound_72 : decode cX11_bound 72 = .ok (.iaload, 1) := by decide +kernel
theorem dX11_bound_73 : decode cX11_bound 73 = .ok (.ireturn, 1) := by decide +kernel
theorem dX11_bound_74 : decode cX11_bound 74 = .ok (.bipush (-2), 2) := by decide +kernel
theorem dX11_bound_76 : decode cX11_bound 76 = .ok (.ireturn, 1) := by decide +kernel
theorem dX11_wed_0 : decode cX11_wed 0 = .ok (.iload_n 1, 1) := by decide +kernel
theorem dX11_wed_1 : decode cX11_wed 1 = .ok (.iconst 0, 1) := by decide +kernel
theorem dX11_wed_2 : decode cX11_wed 2 = .ok (.iconst 3, 1) := by decide +kernel
theorem dX11_wed_3 : decode cX11_wed 3 = .ok (.invokestatic 102, 3) := by decide +kernel
theorem dX11_wed_6 : decode cX11_wed 6 = .ok (.ifCond .eq 12, 3) := by decide +kernel
theorem dX11_wed_9 : decode cX11_wed 9 = .ok (.iload_n 2, 1) := by decide +kernel
theorem dX11_wed_10 : decode cX11_wed 10 = .ok (.iconst 0, 1) := by decide +kernel
theorem dX11_wed_11 : decode cX11_wed 11 = .ok (.iconst 1, 1) := by decide +kernel
theorem dX11_wed_12 : decode cX11_wed 12 = .ok (.invokestatic 102, 3) := by decide +kernel
theorem dX11_wed_15 : decode cX11_wed 15 = .ok (.ifCond .ne 6, 3) := by decide +kernel
theorem dX11_wed_18 : decode cX11_wed 18 = .ok (.bipush (-2), 2) := by decide +kernel
theorem dX11_wed_20 : decode cX11_wed 20 = .ok (.ireturn, 1) := by decide +kernel
theorem dX11_wed_21 : decode cX11_wed 21 = .ok (.aload_n 0, 1) := by decide +kernel
theorem dX11_wed_22 : decode cX11_wed 22 = .ok (.invokevirtual 181, 3) := by decide +kernel
theorem dX11_wed_25 : decode cX11_wed 25 = .ok (.iload_n 2, 1) := by decide +kernel
theorem dX11_wed_26 : decode cX11_wed 26 = .ok (.ifCond .ne 18, 3) := by decide +kernel
theorem dX11_wed_29 : decode cX11_wed 29 = .ok (.aload_n 0, 1) := by decide +kernel
theorem dX11_wed_30 : decode cX11_wed 30 = .ok (.getfield 38, 3) := by decide +kernel
theorem dX11_wed_33 : decode cX11_wed 33 = .ok (.aload_n 0, 1) := by decide +kernel
theorem dX11_wed_34 : decode cX11_wed 34 = .ok (.getfield 29, 3) := by decide +kernel
theorem dX11_wed_37 : decode cX11_wed 37 = .ok (.iload_n 1, 1) := by decide +kernel
theorem dX11_wed_38 : decode cX11_wed 38 = .ok (.invokevirtual 197, 3) := by decide +kernel
theorem dX11_wed_41 : decode cX11_wed 41 = .ok (.goto 15, 3) := by decide +kernel
theorem dX11_wed_44 : decode cX11_wed 44 = .ok (.aload_n 0, 1) := by decide +kernel
theorem dX11_wed_45 : decode cX11_wed 45 = .ok (.getfield 38, 3) := by decide +kernel
theorem dX11_wed_48 : decode cX11_wed 48 = .ok (.aload_n 0, 1) := by decide +kernel
theorem dX11_wed_49 : decode cX11_wed 49 = .ok (.getfield 29, 3) := by decide +kernel
theorem dX11_wed_52 : decode cX11_wed 52 = .ok (.iload_n 1, 1) := by decide +kernel
theorem dX11_wed_53 : decode cX11_wed 53 = .ok (.invokevirtual 201, 3) := by decide +kernel
theorem dX11_wed_56 : decode cX11_wed 56 = .ok (.ireturn, 1) := by decide +kernel
theorem dX11_throughs_0 : decode cX11_throughs 0 = .ok (.iload_n 1, 1) := by decide +kernel
theorem dX11_throughs_1 : decode cX11_throughs 1 = .ok (.iconst 0, 1) := by decide +kernel
theorem dX11_throughs_2 : decode cX11_throughs 2 = .ok (.iconst 1, 1) := by decide +kernel
theorem dX11_throughs_3 : decode cX11_throughs 3 = .ok (.invokestatic 102, 3) := by decide +kernel
theorem dX11_throughs_6 : decode cX11_throughs 6 = .ok (.ifCond .ne 6, 3) := by decide +kernel
theorem dX11_throughs_9 : decode cX11_throughs 9 = .ok (.bipush (-2), 2) := by decide +kernel
theorem dX11_throughs_11 : decode cX11_throughs 11 = .ok (.ireturn, 1) := by decide +kernel
theorem dX11_throughs_12 : decode cX11_throughs 12 = .ok (.aload_n 0, 1) := by decide +kernel
theorem dX11_throughs_13 : decode cX11_throughs 13 = .ok (.invokevirtual 181, 3) := by decide +kernel
theorem dX11_throughs_16 : decode cX11_throughs 16 = .ok (.iload_n 1, 1) := by decide +kernel
theorem dX11_throughs_17 : decode cX11_throughs 17 = .ok (.ifCond .ne 13, 3) := by decide +kernel
theorem dX11_throughs_20 : decode cX11_throughs 20 = .ok (.aload_n 0, 1) := by decide +kernel
theorem dX11_throughs_21 : decode cX11_throughs 21 = .ok (.getfield 38, 3) := by decide +kernel
theorem dX11_throughs_24 : decode cX11_throughs 24 = .ok (.getfield 204, 3) := by decide +kernel
theorem dX11_throughs_27 : decode cX11_throughs 27 = .ok (.goto 10, 3) := by decide +kernel
theorem dX11_throughs_30 : decode cX11_throughs 30 = .ok (.aload_n 0, 1) := by decide +kernel
theorem dX11_throughs_31 : decode cX11_throughs 31 = .ok (.getfield 38, 3) := by decide +kernel
theorem dX11_throughs_34 : decode cX11_throughs 34 = .ok (.getfield 207, 3) := by decide +kernel
theorem dX11_throughs_37 : decode cX11_throughs 37 = .ok (.ireturn, 1) := by decide +kernel
theorem dX11_missed_0 : decode cX11_missed 0 = .ok (.aload_n 0, 1) := by decide +kernel
theorem dX11_missed_1 : decode cX11_missed 1 = .ok (.invokevirtual 181, 3) := by decide +kernel
theorem dX11_missed_4 : decode cX11_missed 4 = .ok (.iconst 0, 1) := by decide +kernel
theorem dX11_missed_5 : decode cX11_missed 5 = .ok (.istore_n 1, 1) := by decide +kernel
theorem dX11_missed_6 : decode cX11_missed 6 = .ok (.iconst 0, 1) := by decide +kernel
theorem dX11_missed_7 : decode cX11_missed 7 = .ok (.istore_n 2, 1) := by decide +kernel
theorem dX11_missed_8 : decode cX11_missed 8 = .ok (.iload_n 2, 1) := by decide +kernel
theorem dX11_missed_9 : decode cX11_missed 9 = .ok (.aload_n 0, 1) := by decide +kernel
theorem dX11_missed_10 : decode cX11_missed 10 = .ok (.getfield 29, 3) := by decide +kernel
theorem dX11_missed_13 : decode cX11_missed 13 = .ok (.getfield 144, 3) := by decide +kernel
theorem dX11_missed_16 : decode cX11_missed 16 = .ok (.if_icmp .ge 28, 3) := by decide +kernel
theorem dX11_missed_19 : decode cX11_missed 19 = .ok (.aload_n 0, 1) := by decide +kernel
theorem dX11_missed_20 : decode cX11_missed 20 = .ok (.getfield 38, 3) := by decide +kernel
theorem dX11_missed_23 : decode cX11_missed 23 = .ok (.getfield 210, 3) := by decide +kernel
theorem dX11_missed_26 : decode cX11_missed 26 = .ok (.iload_n 2, 1) := by decide +kernel
theorem dX11_missed_27 : decode cX11_missed 27 = .ok (.iaload, 1) := by decide +kernel
theorem dX11_missed_28 : decode cX11_missed 28 = .ok (.iconst 2, 1) := by decide +kernel
theorem dX11_missed_29 : decode cX11_missed 29 = .ok (.if_icmp .eq 9, 3) := by decide +kernel
theorem dX11_missed_32 : decode cX11_missed 32 = .ok (.iload_n 1, 1) := by decide +kernel
theorem dX11_missed_33 : decode cX11_missed 33 = .ok (.iconst 1, 1) := by decide +kernel
theorem dX11_missed_34 : decode cX11_missed 34 = .ok (.iload_n 2, 1) := by decide +kernel
theorem dX11_missed_35 : decode cX11_missed 35 = .ok (.ishl, 1) := by decide +kernel
theorem dX11_missed_36 : decode cX11_missed 36 = .ok (.ior, 1) := by decide +kernel
theorem dX11_missed_37 : decode cX11_missed 37 = .ok (.istore_n 1, 1) := by decide +kernel
theorem dX11_missed_38 : decode cX11_missed 38 = .ok (.iinc 2 1, 3) := by decide +kernel
theorem dX11_missed_41 : decode cX11_missed 41 = .ok (.goto (-33), 3) := by decide +kernel
theorem dX11_missed_44 : decode cX11_missed 44 = .ok (.iload_n 1, 1) := by decide +kernel
theorem dX11_missed_45 : decode cX11_missed 45 = .ok (.ireturn, 1) := by decide +kernel
theorem dX11_richest_0 : decode cX11_richest 0 = .ok (.aload_n 0, 1) := by decide +kernel
theorem dX11_richest_1 : decode cX11_richest 1 = .ok (.invokevirtual 181, 3) := by decide +kernel
theorem dX11_richest_4 : decode cX11_richest 4 = .ok (.iconst (-1), 1) := by decide +kernel
theorem dX11_richest_5 : decode cX11_richest 5 = .ok (.istore_n 1, 1) := by decide +kernel
theorem dX11_richest_6 : decode cX11_richest 6 = .ok (.iconst 0, 1) := by decide +kernel
theorem dX11_richest_7 : decode cX11_richest 7 = .ok (.istore_n 2, 1) := by decide +kernel
theorem dX11_richest_8 : decode cX11_richest 8 = .ok (.iconst 0, 1) := by decide +kernel
theorem dX11_richest_9 : decode cX11_richest 9 = .ok (.istore_n 3, 1) := by decide +kernel
theorem dX11_richest_10 : decode cX11_richest 10 = .ok (.iload_n 3, 1) := by decide +kernel
theorem dX11_richest_11 : decode cX11_richest 11 = .ok (.iconst 4, 1) := by decide +kernel
theorem dX11_richest_12 : decode cX11_richest 12 = .ok (.if_icmp .ge 37, 3) := by decide +kernel
theorem dX11_richest_15 : decode cX11_richest 15 = .ok (.aload_n 0, 1) := by decide +kernel
theorem dX11_richest_16 : decode cX11_richest 16 = .ok (.getfield 38, 3) := by decide +kernel
theorem dX11_richest_19 : decode cX11_richest 19 = .ok (.aload_n 0, 1) := by decide +kernel
theorem dX11_richest_20 : decode cX11_richest 20 = .ok (.getfield 29, 3) := by decide +kernel
theorem dX11_richest_23 : decode cX11_richest 23 = .ok (.iload_n 3, 1) := by decide +kernel
theorem dX11_richest_24 : decode cX11_richest 24 = .ok (.invokevirtual 197, 3) := by decide +kernel
theorem dX11_richest_27 : decode cX11_richest 27 = .ok (.invokestatic 213, 3) := by decide +kernel
theorem dX11_richest_30 : decode cX11_richest 30 = .ok (.istore 4, 2) := by decide +kernel
theorem dX11_richest_32 : decode cX11_richest 32 = .ok (.iload 4, 2) := by decide +kernel
theorem dX11_richest_34 : decode cX11_richest 34 = .ok (.iload_n 2, 1) := by decide +kernel
theorem dX11_richest_35 : decode cX11_richest 35 = .ok (.if_icmp .le 8, 3) := by decide +kernel
theorem dX11_richest_38 : decode cX11_richest 38 = .ok (.iload 4, 2) := by decide +kernel
theorem dX11_richest_40 : decode cX11_richest 40 = .ok (.istore_n 2, 1) := by decide +kernel
theorem dX11_richest_41 : decode cX11_richest 41 = .ok (.iload_n 3, 1) := by decide +kernel
theorem dX11_richest_42 : decode cX11_richest 42 = .ok (.istore_n 1, 1) := by decide +kernel
theorem dX11_richest_43 : decode cX11_richest 43 = .ok (.iinc 3 1, 3) := by decide +kernel
theorem dX11_richest_46 : decode cX11_richest 46 = .ok (.goto (-36), 3) := by decide +kernel
theorem dX11_richest_49 : decode cX11_richest 49 = .ok (.iload_n 1, 1) := by decide +kernel
theorem dX11_richest_50 : decode cX11_richest 50 = .ok (.ireturn, 1) := by decide +kernel
theorem dX11_lonely_0 : decode cX11_lonely 0 = .ok (.aload_n 0, 1) := by decide +kernel
theorem dX11_lonely_1 : decode cX11_lonely 1 = .ok (.invokevirtual 181, 3) := by decide +kernel
theorem dX11_lonely_4 : decode cX11_lonely 4 = .ok (.iconst (-1), 1) := by decide +kernel
theorem dX11_lonely_5 : decode cX11_lonely 5 = .ok (.istore_n 1, 1) := by decide +kernel
theorem dX11_lonely_6 : decode cX11_lonely 6 = .ok (.iconst (-1), 1) := by decide +kernel
theorem dX11_lonely_7 : decode cX11_lonely 7 = .ok (.istore_n 2, 1) := by decide +kernel
theorem dX11_lonely_8 : decode cX11_lonely 8 = .ok (.iconst 0, 1) := by decide +kernel
theorem dX11_lonely_9 : decode cX11_lonely 9 = .ok (.istore_n 3, 1) := by decide +kernel
theorem dX11_lonely_10 : decode cX11_lonely 10 = .ok (.iload_n 3, 1) := by decide +kernel
theorem dX11_lonely_11 : decode cX11_lonely 11 = .ok (.aload_n 0, 1) := by decide +kernel
theorem dX11_lonely_12 : decode cX11_lonely 12 = .ok (.getfield 29, 3) := by decide +kernel
theorem dX11_lonely_15 : decode cX11_lonely 15 = .ok (.getfield 218, 3) := by decide +kernel
theorem dX11_lonely_18 : decode cX11_lonely 18 = .ok (.if_icmp .ge 34, 3) := by decide +kernel
theorem dX11_lonely_21 : decode cX11_lonely 21 = .ok (.aload_n 0, 1) := by decide +kernel
theorem dX11_lonely_22 : decode cX11_lonely 22 = .ok (.getfield 38, 3) := by decide +kernel
theorem dX11_lonely_25 : decode cX11_lonely 25 = .ok (.getfield 191, 3) := by decide +kernel
theorem dX11_lonely_28 : decode cX11_lonely 28 = .ok (.iload_n 3, 1) := by decide +kernel
theorem dX11_lonely_29 : decode cX11_lonely 29 = .ok (.iaload, 1) := by decide +kernel
theorem dX11_lonely_30 : decode cX11_lonely 30 = .ok (.iload_n 2, 1) := by decide +kernel
theorem dX11_lonely_31 : decode cX11_lonely 31 = .ok (.if_icmp .le 15, 3) := by decide +kernel
theorem dX11_lonely_34 : decode cX11_lonely 34 = .ok (.aload_n 0, 1) := by decide +kernel
theorem dX11_lonely_35 : decode cX11_lonely 35 = .ok (.getfield 38, 3) := by decide +kernel
theorem dX11_lonely_38 : decode cX11_lonely 38 = .ok (.getfield 191, 3) := by decide +kernel
theorem dX11_lonely_41 : decode cX11_lonely 41 = .ok (.iload_n 3, 1) := by decide +kernel
theorem dX11_lonely_42 : decode cX11_lonely 42 = .ok (.iaload, 1) := by decide +kernel
theorem dX11_lonely_43 : decode cX11_lonely 43 = .ok (.istore_n 2, 1) := by decide +kernel
theorem dX11_lonely_44 : decode cX11_lonely 44 = .ok (.iload_n 3, 1) := by decide +kernel
theorem dX11_lonely_45 : decode cX11_lonely 45 = .ok (.istore_n 1, 1) := by decide +kernel
theorem dX11_lonely_46 : decode cX11_lonely 46 = .ok (.iinc 3 1, 3) := by decide +kernel
theorem dX11_lonely_49 : decode cX11_lonely 49 = .ok (.goto (-39), 3) := by decide +kernel
theorem dX11_lonely_52 : decode cX11_lonely 52 = .ok (.iload_n 1, 1) := by decide +kernel
theorem dX11_lonely_53 : decode cX11_lonely 53 = .ok (.ireturn, 1) := by decide +kernel
theorem dX11_breath_0 : decode cX11_breath 0 = .ok (.aload_n 0, 1) := by decide +kernel
theorem dX11_breath_1 : decode cX11_breath 1 = .ok (.iload_n 1, 1) := by decide +kernel
theorem dX11_breath_2 : decode cX11_breath 2 = .ok (.invokevirtual 151, 3) := by decide +kernel
theorem dX11_breath_5 : decode cX11_breath 5 = .ok (.ifCond .eq 23, 3) := by decide +kernel
theorem dX11_breath_8 : decode cX11_breath 8 = .ok (.aload_n 0, 1) := by decide +kernel
theorem dX11_breath_9 : decode cX11_breath 9 = .ok (.iload_n 2, 1) := by decide +kernel
theorem dX11_breath_10 : decode cX11_breath 10 = .ok (.invokevirtual 122, 3) := by decide +kernel
theorem dX11_breath_13 : decode cX11_breath 13 = .ok (.ifCond .eq 15, 3) := by decide +kernel
theorem dX11_breath_16 : decode cX11_breath 16 = .ok (.aload_n 0, 1) := by decide +kernel
theorem dX11_breath_17 : decode cX11_breath 17 = .ok (.getfield 82, 3) := by decide +kernel
theorem dX11_breath_20 : decode cX11_breath 20 = .ok (.iload_n 1, 1) := by decide +kernel
theorem dX11_breath_21 : decode cX11_breath 21 = .ok (.iload_n 2, 1) := by decide +kernel
theorem dX11_breath_22 : decode cX11_breath 22 = .ok (.invokevirtual 221, 3) := by decide +kernel
theorem dX11_breath_25 : decode cX11_breath 25 = .ok (.goto 5, 3) := by decide +kernel
theorem dX11_breath_28 : decode cX11_breath 28 = .ok (.bipush (-2), 2) := by decide +kernel
theorem dX11_breath_30 : decode cX11_breath 30 = .ok (.ireturn, 1) := by decide +kernel
theorem dX11_aim_0 : decode cX11_aim 0 = .ok (.aload_n 0, 1) := by decide +kernel
theorem dX11_aim_1 : decode cX11_aim 1 = .ok (.iload_n 1, 1) := by decide +kernel
theorem dX11_aim_2 : decode cX11_aim 2 = .ok (.invokevirtual 151, 3) := by decide +kernel
theorem dX11_aim_5 : decode cX11_aim 5 = .ok (.ifCond .eq 12, 3) := by decide +kernel
theorem dX11_aim_8 : decode cX11_aim 8 = .ok (.iload_n 2, 1) := by decide +kernel
theorem dX11_aim_9 : decode cX11_aim 9 = .ok (.iconst 0, 1) := by decide +kernel
theorem dX11_aim_10 : decode cX11_aim 10 = .ok (.iconst 2, 1) := by decide +kernel
theorem dX11_aim_11 : decode cX11_aim 11 = .ok (.invokestatic 102, 3) := by decide +kernel
theorem dX11_aim_14 : decode cX11_aim 14 = .ok (.ifCond .ne 6, 3) := by decide +kernel
theorem dX11_aim_17 : decode cX11_aim 17 = .ok (.bipush (-2), 2) := by decide +kernel
theorem dX11_aim_19 : decode cX11_aim 19 = .ok (.ireturn, 1) := by decide +kernel
theorem dX11_aim_20 : decode cX11_aim 20 = .ok (.aload_n 0, 1) := by decide +kernel
theorem dX11_aim_21 : decode cX11_aim 21 = .ok (.getfield 82, 3) := by decide +kernel
theorem dX11_aim_24 : decode cX11_aim 24 = .ok (.iload_n 1, 1) := by decide +kernel
theorem dX11_aim_25 : decode cX11_aim 25 = .ok (.invokevirtual 225, 3) := by decide +kernel
theorem dX11_aim_28 : decode cX11_aim 28 = .ok (.iload_n 2, 1) := by decide +kernel
theorem dX11_aim_29 : decode cX11_aim 29 = .ok (.ifCond .ne 13, 3) := by decide +kernel
theorem dX11_aim_32 : decode cX11_aim 32 = .ok (.aload_n 0, 1) := by decide +kernel
theorem dX11_aim_33 : decode cX11_aim 33 = .ok (.getfield 82, 3) := by decide +kernel
theorem dX11_aim_36 : decode cX11_aim 36 = .ok (.getfield 228, 3) := by decide +kernel
theorem dX11_aim_39 : decode cX11_aim 39 = .ok (.goto 25, 3) := by decide +kernel
theorem dX11_aim_42 : decode cX11_aim 42 = .ok (.iload_n 2, 1) := by decide +kernel
theorem dX11_aim_43 : decode cX11_aim 43 = .ok (.iconst 1, 1) := by decide +kernel
theorem dX11_aim_44 : decode cX11_aim 44 = .ok (.if_icmp .ne 13, 3) := by decide +kernel
theorem dX11_aim_47 : decode cX11_aim 47 = .ok (.aload_n 0, 1) := by decide +kernel
theorem dX11_aim_48 : decode cX11_aim 48 = .ok (.getfield 82, 3) := by decide +kernel
theorem dX11_aim_51 : decode cX11_aim 51 = .ok (.getfield 231, 3) := by decide +kernel
theorem dX11_aim_54 : decode cX11_aim 54 = .ok (.goto 10, 3) := by decide +kernel
theorem dX11_aim_57 : decode cX11_aim 57 = .ok (.aload_n 0, 1) := by decide +kernel
theorem dX11_aim_58 : decode cX11_aim 58 = .ok (.getfield 82, 3) := by decide +kernel
theorem dX11_aim_61 : decode cX11_aim 61 = .ok (.getfield 234, 3) := by decide +kernel
theorem dX11_aim_64 : decode cX11_aim 64 = .ok (.ireturn, 1) := by decide +kernel
theorem dX11_stand_0 : decode cX11_stand 0 = .ok (.aload_n 0, 1) := by decide +kernel
theorem dX11_stand_1 : decode cX11_stand 1 = .ok (.iload_n 1, 1) := by decide +kernel
theorem dX11_stand_2 : decode cX11_stand 2 = .ok (.invokevirtual 122, 3) := by decide +kernel
theorem dX11_stand_5 : decode cX11_stand 5 = .ok (.ifCond .eq 14, 3) := by decide +kernel
theorem dX11_stand_8 : decode cX11_stand 8 = .ok (.aload_n 0, 1) := by decide +kernel
theorem dX11_stand_9 : decode cX11_stand 9 = .ok (.getfield 82, 3) := by decide +kernel
theorem dX11_stand_12 : decode cX11_stand 12 = .ok (.iload_n 1, 1) := by decide +kernel
theorem dX11_stand_13 : decode cX11_stand 13 = .ok (.invokevirtual 237, 3) := by decide +kernel
theorem dX11_stand_16 : decode cX11_stand 16 = .ok (.goto 5, 3) := by decide +kernel
theorem dX11_stand_19 : decode cX11_stand 19 = .ok (.bipush (-2), 2) := by decide +kernel
theorem dX11_stand_21 : decode cX11_stand 21 = .ok (.ireturn, 1) := by decide +kernel
theorem dX11_hush_0 : decode cX11_hush 0 = .ok (.aload_n 0, 1) := by decide +kernel
theorem dX11_hush_1 : decode cX11_hush 1 = .ok (.iload_n 1, 1) := by decide +kernel
theorem dX11_hush_2 : decode cX11_hush 2 = .ok (.invokevirtual 122, 3) := by decide +kernel
theorem dX11_hush_5 : decode cX11_hush 5 = .ok (.ifCond .eq 12, 3) := by decide +kernel
theorem dX11_hush_8 : decode cX11_hush 8 = .ok (.iload_n 2, 1) := by decide +kernel
theorem dX11_hush_9 : decode cX11_hush 9 = .ok (.iconst (-1), 1) := by decide +kernel
theorem dX11_hush_10 : decode cX11_hush 10 = .ok (.iconst 1, 1) := by decide +kernel
theorem dX11_hush_11 : decode cX11_hush 11 = .ok (.invokestatic 102, 3) := by decide +kernel
theorem dX11_hush_14 : decode cX11_hush 14 = .ok (.ifCond .ne 6, 3) := by decide +kernel
theorem dX11_hush_17 : decode cX11_hush 17 = .ok (.bipush (-2), 2) := by decide +kernel
theorem dX11_hush_19 : decode cX11_hush 19 = .ok (.ireturn, 1) := by decide +kernel
theorem dX11_hush_20 : decode cX11_hush 20 = .ok (.aload_n 0, 1) := by decide +kernel
theorem dX11_hush_21 : decode cX11_hush 21 = .ok (.getfield 82, 3) := by decide +kernel
theorem dX11_hush_24 : decode cX11_hush 24 = .ok (.iload_n 1, 1) := by decide +kernel
theorem dX11_hush_25 : decode cX11_hush 25 = .ok (.invokevirtual 240, 3) := by decide +kernel
theorem dX11_hush_28 : decode cX11_hush 28 = .ok (.aload_n 0, 1) := by decide +kernel
theorem dX11_hush_29 : decode cX11_hush 29 = .ok (.getfield 82, 3) := by decide +kernel
theorem dX11_hush_32 : decode cX11_hush 32 = .ok (.getfield 243, 3) := by decide +kernel
theorem dX11_hush_35 : decode cX11_hush 35 = .ok (.iload_n 2, 1) := by decide +kernel
theorem dX11_hush_36 : decode cX11_hush 36 = .ok (.invokevirtual 247, 3) := by decide +kernel
theorem dX11_hush_39 : decode cX11_hush 39 = .ok (.ireturn, 1) := by decide +kernel
theorem dX11_calm_0 : decode cX11_calm 0 = .ok (.iload_n 1, 1) := by decide +kernel
theorem dX11_calm_1 : decode cX11_calm 1 = .ok (.iconst 0, 1) := by decide +kernel
theorem dX11_calm_2 : decode cX11_calm 2 = .ok (.iconst 1, 1) := by decide +kernel
theorem dX11_calm_3 : decode cX11_calm 3 = .ok (.invokestatic 102, 3) := by decide +kernel
theorem dX11_calm_6 : decode cX11_calm 6 = .ok (.ifCond .ne 6, 3) := by decide +kernel
theorem dX11_calm_9 : decode cX11_calm 9 = .ok (.bipush (-2), 2) := by decide +kernel
theorem dX11_calm_11 : decode cX11_calm 11 = .ok (.ireturn, 1) := by decide +kernel
theorem dX11_calm_12 : decode cX11_calm 12 = .ok (.aload_n 0, 1) := by decide +kernel
theorem dX11_calm_13 : decode cX11_calm 13 = .ok (.getfield 82, 3) := by decide +kernel
theorem dX11_calm_16 : decode cX11_calm 16 = .ok (.invokevirtual 252, 3) := by decide +kernel
theorem dX11_calm_19 : decode cX11_calm 19 = .ok (.iload_n 1, 1) := by decide +kernel
theorem dX11_calm_20 : decode cX11_calm 20 = .ok (.ifCond .ne 13, 3) := by decide +kernel
theorem dX11_calm_23 : decode cX11_calm 23 = .ok (.aload_n 0, 1) := by decide +kernel
theorem dX11_calm_24 : decode cX11_calm 24 = .ok (.getfield 82, 3) := by decide +kernel
theorem dX11_calm_27 : decode cX11_calm 27 = .ok (.getfield 255, 3) := by decide +kernel
theorem dX11_calm_30 : decode cX11_calm 30 = .ok (.goto 10, 3) := by decide +kernel
theorem dX11_calm_33 : decode cX11_calm 33 = .ok (.aload_n 0, 1) := by decide +kernel
theorem dX11_calm_34 : decode cX11_calm 34 = .ok (.getfield 82, 3) := by decide +kernel
theorem dX11_calm_37 : decode cX11_calm 37 = .ok (.getfield 258, 3) := by decide +kernel
theorem dX11_calm_40 : decode cX11_calm 40 = .ok (.ireturn, 1) := by decide +kernel
theorem dX11_free_0 : decode cX11_free 0 = .ok (.iload_n 1, 1) := by decide +kernel
theorem dX11_free_1 : decode cX11_free 1 = .ok (.iconst 0, 1) := by decide +kernel
theorem dX11_free_2 : decode cX11_free 2 = .ok (.iconst 3, 1) := by decide +kernel
theorem dX11_free_3 : decode cX11_free 3 = .ok (.invokestatic 102, 3) := by decide +kernel
theorem dX11_free_6 : decode cX11_free 6 = .ok (.ifCond .eq 22, 3) := by decide +kernel
theorem dX11_free_9 : decode cX11_free 9 = .ok (.iload_n 2, 1) := by decide +kernel
theorem dX11_free_10 : decode cX11_free 10 = .ok (.iconst 0, 1) := by decide +kernel
theorem dX11_free_11 : decode cX11_free 11 = .ok (.bipush 99, 2) := by decide +kernel
theorem dX11_free_13 : decode cX11_free 13 = .ok (.invokestatic 102, 3) := by decide +kernel
theorem dX11_free_16 : decode cX11_free 16 = .ok (.ifCond .eq 12, 3) := by decide +kernel
theorem dX11_free_19 : decode cX11_free 19 = .ok (.iload_n 3, 1) := by decide +kernel
theorem dX11_free_20 : decode cX11_free 20 = .ok (.iconst (-1), 1) := by decide +kernel
theorem dX11_free_21 : decode cX11_free 21 = .ok (.iconst 1, 1) := by decide +kernel
theorem dX11_free_22 : decode cX11_free 22 = .ok (.invokestatic 102, 3) := by decide +kernel
theorem dX11_free_25 : decode cX11_free 25 = .ok (.ifCond .ne 6, 3) := by decide +kernel
theorem dX11_free_28 : decode cX11_free 28 = .ok (.bipush (-2), 2) := by decide +kernel
theorem dX11_free_30 : decode cX11_free 30 = .ok (.ireturn, 1) := by decide +kernel
theorem dX11_free_31 : decode cX11_free 31 = .ok (.aload_n 0, 1) := by decide +kernel
theorem dX11_free_32 : decode cX11_free 32 = .ok (.invokevirtual 181, 3) := by decide +kernel
theorem dX11_free_35 : decode cX11_free 35 = .ok (.aload_n 0, 1) := by decide +kernel
theorem dX11_free_36 : decode cX11_free 36 = .ok (.getfield 82, 3) := by decide +kernel
theorem dX11_free_39 : decode cX11_free 39 = .ok (.aload_n 0, 1) := by decide +kernel
theorem dX11_free_40 : decode cX11_free 40 = .ok (.getfield 38, 3) := by decide +kernel
theorem dX11_free_43 : decode cX11_free 43 = .ok (.iload_n 1, 1) := by decide +kernel
theorem dX11_free_44 : decode cX11_free 44 = .ok (.iload_n 2, 1) := by decide +kernel
theorem dX11_free_45 : decode cX11_free 45 = .ok (.invokevirtual 261, 3) := by decide +kernel
theorem dX11_free_48 : decode cX11_free 48 = .ok (.aload_n 0, 1) := by decide +kernel
theorem dX11_free_49 : decode cX11_free 49 = .ok (.getfield 82, 3) := by decide +kernel
theorem dX11_free_52 : decode cX11_free 52 = .ok (.getfield 243, 3) := by decide +kernel
theorem dX11_free_55 : decode cX11_free 55 = .ok (.iload_n 3, 1) := by decide +kernel
theorem dX11_free_56 : decode cX11_free 56 = .ok (.invokevirtual 247, 3) := by decide +kernel
theorem dX11_free_59 : decode cX11_free 59 = .ok (.ireturn, 1) := by decide +kernel
theorem dX11_seen_0 : decode cX11_seen 0 = .ok (.iload_n 1, 1) := by decide +kernel
theorem dX11_seen_1 : decode cX11_seen 1 = .ok (.iconst 0, 1) := by decide +kernel
theorem dX11_seen_2 : decode cX11_seen 2 = .ok (.bipush 7, 2) := by decide +kernel
theorem dX11_seen_4 : decode cX11_seen 4 = .ok (.invokestatic 102, 3) := by decide +kernel
theorem dX11_seen_7 : decode cX11_seen 7 = .ok (.ifCond .eq 12, 3) := by decide +kernel
theorem dX11_seen_10 : decode cX11_seen 10 = .ok (.iload_n 2, 1) := by decide +kernel
theorem dX11_seen_11 : decode cX11_seen 11 = .ok (.iconst 0, 1) := by decide +kernel
theorem dX11_seen_12 : decode cX11_seen 12 = .ok (.iconst 4, 1) := by decide +kernel
theorem dX11_seen_13 : decode cX11_seen 13 = .ok (.invokestatic 102, 3) := by decide +kernel
theorem dX11_seen_16 : decode cX11_seen 16 = .ok (.ifCond .ne 6, 3) := by decide +kernel
theorem dX11_seen_19 : decode cX11_seen 19 = .ok (.bipush (-2), 2) := by decide +kernel
theorem dX11_seen_21 : decode cX11_seen 21 = .ok (.ireturn, 1) := by decide +kernel
theorem dX11_seen_22 : decode cX11_seen 22 = .ok (.aload_n 0, 1) := by decide +kernel
theorem dX11_seen_23 : decode cX11_seen 23 = .ok (.getfield 52, 3) := by decide +kernel
theorem dX11_seen_26 : decode cX11_seen 26 = .ok (.iload_n 1, 1) := by decide +kernel
theorem dX11_seen_27 : decode cX11_seen 27 = .ok (.iload_n 2, 1) := by decide +kernel
theorem dX11_seen_28 : decode cX11_seen 28 = .ok (.invokevirtual 265, 3) := by decide +kernel
theorem dX11_seen_31 : decode cX11_seen 31 = .ok (.ifCond .eq 13, 3) := by decide +kernel
theorem dX11_seen_34 : decode cX11_seen 34 = .ok (.aload_n 0, 1) := by decide +kernel
theorem dX11_seen_35 : decode cX11_seen 35 = .ok (.getfield 52, 3) := by decide +kernel
theorem dX11_seen_38 : decode cX11_seen 38 = .ok (.getfield 269, 3) := by decide +kernel
theorem dX11_seen_41 : decode cX11_seen 41 = .ok (.goto 5, 3) := by decide +kernel
theorem dX11_seen_44 : decode cX11_seen 44 = .ok (.bipush (-4), 2) := by decide +kernel
theorem dX11_seen_46 : decode cX11_seen 46 = .ok (.ireturn, 1) := by decide +kernel
theorem dX11_forget_0 : decode cX11_forget 0 = .ok (.aload_n 0, 1) := by decide +kernel
theorem dX11_forget_1 : decode cX11_forget 1 = .ok (.getfield 52, 3) := by decide +kernel
theorem dX11_forget_4 : decode cX11_forget 4 = .ok (.getfield 269, 3) := by decide +kernel
theorem dX11_forget_7 : decode cX11_forget 7 = .ok (.istore_n 1, 1) := by decide +kernel
theorem dX11_forget_8 : decode cX11_forget 8 = .ok (.aload_n 0, 1) := by decide +kernel
theorem dX11_forget_9 : decode cX11_forget 9 = .ok (.getfield 52, 3) := by decide +kernel
theorem dX11_forget_12 : decode cX11_forget 12 = .ok (.iconst 0, 1) := by decide +kernel
theorem dX11_forget_13 : decode cX11_forget 13 = .ok (.putfield 269, 3) := by decide +kernel
theorem dX11_forget_16 : decode cX11_forget 16 = .ok (.iload_n 1, 1) := by decide +kernel
theorem dX11_forget_17 : decode cX11_forget 17 = .ok (.ireturn, 1) := by decide +kernel
theorem dX11_never_0 : decode cX11_never 0 = .ok (.aload_n 0, 1) := by decide +kernel
theorem dX11_never_1 : decode cX11_never 1 = .ok (.getfield 91, 3) := by decide +kernel
theorem dX11_never_4 : decode cX11_never 4 = .ok (.invokevirtual 270, 3) := by decide +kernel
theorem dX11_never_7 : decode cX11_never 7 = .ok (.ireturn, 1) := by decide +kernel
theorem dX11_whence_0 : decode cX11_whence 0 = .ok (.aload_n 0, 1) := by decide +kernel
theorem dX11_whence_1 : decode cX11_whence 1 = .ok (.iload_n 1, 1) := by decide +kernel
theorem dX11_whence_2 : decode cX11_whence 2 = .ok (.invokevirtual 151, 3) := by decide +kernel
theorem dX11_whence_5 : decode cX11_whence 5 = .ok (.ifCond .eq 13, 3) := by decide +kernel
theorem dX11_whence_8 : decode cX11_whence 8 = .ok (.iload_n 2, 1) := by decide +kernel
theorem dX11_whence_9 : decode cX11_whence 9 = .ok (.iconst (-1), 1) := by decide +kernel
theorem dX11_whence_10 : decode cX11_whence 10 = .ok (.bipush 35, 2) := by decide +kernel
theorem dX11_whence_12 : decode cX11_whence 12 = .ok (.invokestatic 102, 3) := by decide +kernel
theorem dX11_whence_15 : decode cX11_whence 15 = .ok (.ifCond .ne 6, 3) := by decide +kernel
theorem dX11_whence_18 : decode cX11_whence 18 = .ok (.bipush (-2), 2) := by decide +kernel
theorem dX11_whence_20 : decode cX11_whence 20 = .ok (.ireturn, 1) := by decide +kernel
theorem dX11_whence_21 : decode cX11_whence 21 = .ok (.aload_n 0, 1) := by decide +kernel
theorem dX11_whence_22 : decode cX11_whence 22 = .ok (.getfield 91, 3) := by decide +kernel
theorem dX11_whence_25 : decode cX11_whence 25 = .ok (.iload_n 1, 1) := by decide +kernel
theorem dX11_whence_26 : decode cX11_whence 26 = .ok (.invokevirtual 274, 3) := by decide +kernel
theorem dX11_whence_29 : decode cX11_whence 29 = .ok (.aload_n 0, 1) := by decide +kernel
theorem dX11_whence_30 : decode cX11_whence 30 = .ok (.getfield 91, 3) := by decide +kernel
theorem dX11_whence_33 : decode cX11_whence 33 = .ok (.iload_n 2, 1) := by decide +kernel
theorem dX11_whence_34 : decode cX11_whence 34 = .ok (.invokevirtual 277, 3) := by decide +kernel
theorem dX11_whence_37 : decode cX11_whence 37 = .ok (.ireturn, 1) := by decide +kernel
theorem dX11_paces_0 : decode cX11_paces 0 = .ok (.aload_n 0, 1) := by decide +kernel
theorem dX11_paces_1 : decode cX11_paces 1 = .ok (.getfield 91, 3) := by decide +kernel
theorem dX11_paces_4 : decode cX11_paces 4 = .ok (.invokevirtual 280, 3) := by decide +kernel
theorem dX11_paces_7 : decode cX11_paces 7 = .ok (.ireturn, 1) := by decide +kernel
theorem dX11_ask_0 : decode cX11_ask 0 = .ok (.aload_n 0, 1) := by decide +kernel
theorem dX11_ask_1 : decode cX11_ask 1 = .ok (.getfield 91, 3) := by decide +kernel
theorem dX11_ask_4 : decode cX11_ask 4 = .ok (.invokevirtual 283, 3) := by decide +kernel
theorem dX11_ask_7 : decode cX11_ask 7 = .ok (.ireturn, 1) := by decide +kernel
theorem dX11_still_0 : decode cX11_still 0 = .ok (.iload_n 1, 1) := by decide +kernel
theorem dX11_still_1 : decode cX11_still 1 = .ok (.iconst 0, 1) := by decide +kernel
theorem dX11_still_2 : decode cX11_still 2 = .ok (.bipush 16, 2) := by decide +kernel
theorem dX11_still_4 : decode cX11_still 4 = .ok (.invokestatic 102, 3) := by decide +kernel
theorem dX11_still_7 : decode cX11_still 7 = .ok (.ifCond .eq 41, 3) := by decide +kernel
theorem dX11_still_10 : decode cX11_still 10 = .ok (.iload_n 2, 1) := by decide +kernel
theorem dX11_still_11 : decode cX11_still 11 = .ok (.iconst 0, 1) := by decide +kernel
theorem dX11_still_12 : decode cX11_still 12 = .ok (.bipush 9, 2) := by decide +kernel
theorem dX11_still_14 : decode cX11_still 14 = .ok (.invokestatic 102, 3) := by decide +kernel
theorem dX11_still_17 : decode cX11_still 17 = .ok (.ifCond .eq 31, 3) := by decide +kernel
theorem dX11_still_20 : decode cX11_still 20 = .ok (.aload_n 0, 1) := by decide +kernel
theorem dX11_still_21 : decode cX11_still 21 = .ok (.iload_n 3, 1) := by decide +kernel
theorem dX11_still_22 : decode cX11_still 22 = .ok (.invokevirtual 122, 3) := by decide +kernel
theorem dX11_still_25 : decode cX11_still 25 = .ok (.ifCond .eq 23, 3) := by decide +kernel
theorem dX11_still_28 : decode cX11_still 28 = .ok (.iload 4, 2) := by decide +kernel
theorem dX11_still_30 : decode cX11_still 30 = .ok (.iconst 0, 1) := by decide +kernel
theorem dX11_still_31 : decode cX11_still 31 = .ok (.iconst 3, 1) := by decide +kernel
theorem dX11_still_32 : decode cX11_still 32 = .ok (.invokestatic 102, 3) := by decide +kernel
theorem dX11_still_35 : decode cX11_still 35 = .ok (.ifCond .eq 13, 3) := by decide +kernel
theorem dX11_still_38 : decode cX11_still 38 = .ok (.iload 5, 2) := by decide +kernel
theorem dX11_still_40 : decode cX11_still 40 = .ok (.iconst 0, 1) := by decide +kernel
theorem dX11_still_41 : decode cX11_still 41 = .ok (.iconst 1, 1) := by decide +kernel
theorem dX11_still_42 : decode cX11_still 42 = .ok (.invokestatic 102, 3) := by decide +kernel
theorem dX11_still_45 : decode cX11_still 45 = .ok (.ifCond .ne 7, 3) := by decide +kernel
theorem dX11_still_48 : decode cX11_still 48 = .ok (.ldc2_w 286, 3) := by decide +kernel
theorem dX11_still_51 : decode cX11_still 51 = .ok (.lreturn, 1) := by decide +kernel
theorem dX11_still_52 : decode cX11_still 52 = .ok (.aload_n 0, 1) := by decide +kernel
theorem dX11_still_53 : decode cX11_still 53 = .ok (.getfield 98, 3) := by decide +kernel
theorem dX11_still_56 : decode cX11_still 56 = .ok (.iload_n 1, 1) := by decide +kernel
theorem dX11_still_57 : decode cX11_still 57 = .ok (.iload_n 2, 1) := by decide +kernel
theorem dX11_still_58 : decode cX11_still 58 = .ok (.invokevirtual 288, 3) := by decide +kernel
theorem dX11_still_61 : decode cX11_still 61 = .ok (.iload 5, 2) := by decide +kernel
theorem dX11_still_63 : decode cX11_still 63 = .ok (.ifCond .ne 16, 3) := by decide +kernel
theorem dX11_still_66 : decode cX11_still 66 = .ok (.aload_n 0, 1) := by decide +kernel
theorem dX11_still_67 : decode cX11_still 67 = .ok (.getfield 98, 3) := by decide +kernel
theorem dX11_still_70 : decode cX11_still 70 = .ok (.iload_n 3, 1) := by decide +kernel
theorem dX11_still_71 : decode cX11_still 71 = .ok (.iload 4, 2) := by decide +kernel
theorem dX11_still_73 : decode cX11_still 73 = .ok (.invokevirtual 292, 3) := by decide +kernel
theorem dX11_still_76 : decode cX11_still 76 = .ok (.goto 13, 3) := by decide +kernel
theorem dX11_still_79 : decode cX11_still 79 = .ok (.aload_n 0, 1) := by decide +kernel
theorem dX11_still_80 : decode cX11_still 80 = .ok (.getfield 98, 3) := by decide +kernel
theorem dX11_still_83 : decode cX11_still 83 = .ok (.iload_n 3, 1) := by decide +kernel
theorem dX11_still_84 : decode cX11_still 84 = .ok (.iload 4, 2) := by decide +kernel
theorem dX11_still_86 : decode cX11_still 86 = .ok (.invokevirtual 296, 3) := by decide +kernel
theorem dX11_still_89 : decode cX11_still 89 = .ok (.lreturn, 1) := by decide +kernel
theorem dX11_evening_0 : decode cX11_evening 0 = .ok (.iload_n 2, 1) := by decide +kernel
theorem dX11_evening_1 : decode cX11_evening 1 = .ok (.iconst 1, 1) := by decide +kernel
theorem dX11_evening_2 : decode cX11_evening 2 = .ok (.bipush 8, 2) := by decide +kernel
theorem dX11_evening_4 : decode cX11_evening 4 = .ok (.invokestatic 102, 3) := by decide +kernel
theorem dX11_evening_7 : decode cX11_evening 7 = .ok (.ifCond .eq 12, 3) := by decide +kernel
theorem dX11_evening_10 : decode cX11_evening 10 = .ok (.iload_n 3, 1) := by decide +kernel
theorem dX11_evening_11 : decode cX11_evening 11 = .ok (.iconst 0, 1) := by decide +kernel
theorem dX11_evening_12 : decode cX11_evening 12 = .ok (.iconst 1, 1) := by decide +kernel
theorem dX11_evening_13 : decode cX11_evening 13 = .ok (.invokestatic 102, 3) := by decide +kernel
theorem dX11_evening_16 : decode cX11_evening 16 = .ok (.ifCond .ne 6, 3) := by decide +kernel
theorem dX11_evening_19 : decode cX11_evening 19 = .ok (.bipush (-2), 2) := by decide +kernel
theorem dX11_evening_21 : decode cX11_evening 21 = .ok (.ireturn, 1) := by decide +kernel
theorem dX11_evening_22 : decode cX11_evening 22 = .ok (.aload_n 0, 1) := by decide +kernel
theorem dX11_evening_23 : decode cX11_evening 23 = .ok (.getfield 98, 3) := by decide +kernel
theorem dX11_evening_26 : decode cX11_evening 26 = .ok (.iload_n 1, 1) := by decide +kernel
theorem dX11_evening_27 : decode cX11_evening 27 = .ok (.iload_n 2, 1) := by decide +kernel
theorem dX11_evening_28 : decode cX11_evening 28 = .ok (.invokevirtual 299, 3) := by decide +kernel
theorem dX11_evening_31 : decode cX11_evening 31 = .ok (.iload_n 3, 1) := by decide +kernel
theorem dX11_evening_32 : decode cX11_evening 32 = .ok (.ifCond .ne 13, 3) := by decide +kernel
theorem dX11_evening_35 : decode cX11_evening 35 = .ok (.aload_n 0, 1) := by decide +kernel
theorem dX11_evening_36 : decode cX11_evening 36 = .ok (.getfield 98, 3) := by decide +kernel
theorem dX11_evening_39 : decode cX11_evening 39 = .ok (.getfield 302, 3) := by decide +kernel
theorem dX11_evening_42 : decode cX11_evening 42 = .ok (.goto 10, 3) := by decide +kernel
theorem dX11_evening_45 : decode cX11_evening 45 = .ok (.aload_n 0, 1) := by decide +kernel
theorem dX11_evening_46 : decode cX11_evening 46 = .ok (.getfield 98, 3) := by decide +kernel
theorem dX11_evening_49 : decode cX11_evening 49 = .ok (.getfield 305, 3) := by decide +kernel
theorem dX11_evening_52 : decode cX11_evening 52 = .ok (.ireturn, 1) := by decide +kernel
theorem dX11_sheet_0 : decode cX11_sheet 0 = .ok (.iload_n 1, 1) := by decide +kernel
theorem dX11_sheet_1 : decode cX11_sheet 1 = .ok (.iconst 0, 1) := by decide +kernel
theorem dX11_sheet_2 : decode cX11_sheet 2 = .ok (.iconst 3, 1) := by decide +kernel
theorem dX11_sheet_3 : decode cX11_sheet 3 = .ok (.invokestatic 102, 3) := by decide +kernel
theorem dX11_sheet_6 : decode cX11_sheet 6 = .ok (.ifCond .eq 18, 3) := by decide +kernel
theorem dX11_sheet_9 : decode cX11_sheet 9 = .ok (.iload_n 2, 1) := by decide +kernel
theorem dX11_sheet_10 : decode cX11_sheet 10 = .ok (.iconst 0, 1) := by decide +kernel
theorem dX11_sheet_11 : decode cX11_sheet 11 = .ok (.iconst 2, 1) := by decide +kernel
theorem dX11_sheet_12 : decode cX11_sheet 12 = .ok (.invokestatic 102, 3) := by decide +kernel
theorem dX11_sheet_15 : decode cX11_sheet 15 = .ok (.ifCond .eq 9, 3) := by decide +kernel
theorem dX11_sheet_18 : decode cX11_sheet 18 = .ok (.iload_n 3, 1) := by decide +kernel
theorem dX11_sheet_19 : decode cX11_sheet 19 = .ok (.bipush 60, 2) := by decide +kernel
theorem dX11_sheet_21 : decode cX11_sheet 21 = .ok (.if_icmp .le 6, 3) := by decide +kernel
theorem dX11_sheet_24 : decode cX11_sheet 24 = .ok (.bipush (-2), 2) := by decide +kernel
theorem dX11_sheet_26 : decode cX11_sheet 26 = .ok (.ireturn, 1) := by decide +kernel
theorem dX11_sheet_27 : decode cX11_sheet 27 = .ok (.iload_n 3, 1) := by decide +kernel
theorem dX11_sheet_28 : decode cX11_sheet 28 = .ok (.ifCond .ge 9, 3) := by decide +kernel
theorem dX11_sheet_31 : decode cX11_sheet 31 = .ok (.aload_n 0, 1) := by decide +kernel
theorem dX11_sheet_32 : decode cX11_sheet 32 = .ok (.iconst 5, 1) := by decide +kernel
theorem dX11_sheet_33 : decode cX11_sheet 33 = .ok (.invokevirtual 173, 3) := by decide +kernel
theorem dX11_sheet_36 : decode cX11_sheet 36 = .ok (.ireturn, 1) := by decide +kernel
theorem dX11_sheet_37 : decode cX11_sheet 37 = .ok (.aload_n 0, 1) := by decide +kernel
theorem dX11_sheet_38 : decode cX11_sheet 38 = .ok (.getfield 58, 3) := by decide +kernel
theorem dX11_sheet_41 : decode cX11_sheet 41 = .ok (.iload_n 1, 1) := by decide +kernel
theorem dX11_sheet_42 : decode cX11_sheet 42 = .ok (.aaload, 1) := by decide +kernel
theorem dX11_sheet_43 : decode cX11_sheet 43 = .ok (.iload_n 2, 1) := by decide +kernel
theorem dX11_sheet_44 : decode cX11_sheet 44 = .ok (.iload_n 3, 1) := by decide +kernel
theorem dX11_sheet_45 : decode cX11_sheet 45 = .ok (.invokevirtual 308, 3) := by decide +kernel
theorem dX11_sheet_48 : decode cX11_sheet 48 = .ok (.iload_n 3, 1) := by decide +kernel
theorem dX11_sheet_49 : decode cX11_sheet 49 = .ok (.ireturn, 1) := by decide +kernel
theorem dX11_lose_0 : decode cX11_lose 0 = .ok (.iload_n 1, 1) := by decide +kernel
theorem dX11_lose_1 : decode cX11_lose 1 = .ok (.iconst 0, 1) := by decide +kernel
theorem dX11_lose_2 : decode cX11_lose 2 = .ok (.iconst 3, 1) := by decide +kernel
theorem dX11_lose_3 : decode cX11_lose 3 = .ok (.invokestatic 102, 3) := by decide +kernel
theorem dX11_lose_6 : decode cX11_lose 6 = .ok (.ifCond .ne 6, 3) := by decide +kernel
theorem dX11_lose_9 : decode cX11_lose 9 = .ok (.bipush (-2), 2) := by decide +kernel
theorem dX11_lose_11 : decode cX11_lose 11 = .ok (.ireturn, 1) := by decide +kernel
theorem dX11_lose_12 : decode cX11_lose 12 = .ok (.aload_n 0, 1) := by decide +kernel
theorem dX11_lose_13 : decode cX11_lose 13 = .ok (.getfield 58, 3) := by decide +kernel
theorem dX11_lose_16 : decode cX11_lose 16 = .ok (.iload_n 1, 1) := by decide +kernel
theorem dX11_lose_17 : decode cX11_lose 17 = .ok (.aaload, 1) := by decide +kernel
theorem dX11_lose_18 : decode cX11_lose 18 = .ok (.invokevirtual 169, 3) := by decide +kernel
theorem dX11_lose_21 : decode cX11_lose 21 = .ok (.ifCond .eq 9, 3) := by decide +kernel
theorem dX11_lose_24 : decode cX11_lose 24 = .ok (.aload_n 0, 1) := by decide +kernel
theorem dX11_lose_25 : decode cX11_lose 25 = .ok (.iconst 1, 1) := by decide +kernel
theorem dX11_lose_26 : decode cX11_lose 26 = .ok (.invokevirtual 173, 3) := by decide +kernel
theorem dX11_lose_29 : decode cX11_lose 29 = .ok (.ireturn, 1) := by decide +kernel
theorem dX11_lose_30 : decode cX11_lose 30 = .ok (.aload_n 0, 1) := by decide +kernel
theorem dX11_lose_31 : decode cX11_lose 31 = .ok (.getfield 58, 3) := by decide +kernel
theorem dX11_lose_34 : decode cX11_lose 34 = .ok (.iload_n 1, 1) := by decide +kernel
theorem dX11_lose_35 : decode cX11_lose 35 = .ok (.aaload, 1) := by decide +kernel
theorem dX11_lose_36 : decode cX11_lose 36 = .ok (.getfield 177, 3) := by decide +kernel
theorem dX11_lose_39 : decode cX11_lose 39 = .ok (.istore_n 2, 1) := by decide +kernel
theorem dX11_lose_40 : decode cX11_lose 40 = .ok (.aload_n 0, 1) := by decide +kernel
theorem dX11_lose_41 : decode cX11_lose 41 = .ok (.getfield 58, 3) := by decide +kernel
theorem dX11_lose_44 : decode cX11_lose 44 = .ok (.iload_n 1, 1) := by decide +kernel
theorem dX11_lose_45 : decode cX11_lose 45 = .ok (.aaload, 1) := by decide +kernel
theorem dX11_lose_46 : decode cX11_lose 46 = .ok (.iconst (-1), 1) := by decide +kernel
theorem dX11_lose_47 : decode cX11_lose 47 = .ok (.iconst 0, 1) := by decide +kernel
theorem dX11_lose_48 : decode cX11_lose 48 = .ok (.invokevirtual 308, 3) := by decide +kernel
theorem dX11_lose_51 : decode cX11_lose 51 = .ok (.iload_n 2, 1) := by decide +kernel
theorem dX11_lose_52 : decode cX11_lose 52 = .ok (.ireturn, 1) := by decide +kernel
theorem dX11_lay_0 : decode cX11_lay 0 = .ok (.iload_n 1, 1) := by decide +kernel
theorem dX11_lay_1 : decode cX11_lay 1 = .ok (.iconst 0, 1) := by decide +kernel
theorem dX11_lay_2 : decode cX11_lay 2 = .ok (.iconst 3, 1) := by decide +kernel
theorem dX11_lay_3 : decode cX11_lay 3 = .ok (.invokestatic 102, 3) := by decide +kernel
theorem dX11_lay_6 : decode cX11_lay 6 = .ok (.ifCond .eq 12, 3) := by decide +kernel
theorem dX11_lay_9 : decode cX11_lay 9 = .ok (.iload_n 2, 1) := by decide +kernel
theorem dX11_lay_10 : decode cX11_lay 10 = .ok (.iconst 0, 1) := by decide +kernel
theorem dX11_lay_11 : decode cX11_lay 11 = .ok (.iconst 2, 1) := by decide +kernel
theorem dX11_lay_12 : decode cX11_lay 12 = .ok (.invokestatic 102, 3) := by decide +kernel
theorem dX11_lay_15 : decode cX11_lay 15 = .ok (.ifCond .ne 6, 3) := by decide +kernel
theorem dX11_lay_18 : decode cX11_lay 18 = .ok (.bipush (-2), 2) := by decide +kernel
theorem dX11_lay_20 : decode cX11_lay 20 = .ok (.ireturn, 1) := by decide +kernel
theorem dX11_lay_21 : decode cX11_lay 21 = .ok (.aload_n 0, 1) := by decide +kernel
theorem dX11_lay_22 : decode cX11_lay 22 = .ok (.getfield 58, 3) := by decide +kernel
theorem dX11_lay_25 : decode cX11_lay 25 = .ok (.iload_n 1, 1) := by decide +kernel
theorem dX11_lay_26 : decode cX11_lay 26 = .ok (.aaload, 1) := by decide +kernel
theorem dX11_lay_27 : decode cX11_lay 27 = .ok (.iload_n 2, 1) := by decide +kernel
theorem dX11_lay_28 : decode cX11_lay 28 = .ok (.iload_n 3, 1) := by decide +kernel
theorem dX11_lay_29 : decode cX11_lay 29 = .ok (.invokevirtual 311, 3) := by decide +kernel
theorem dX11_lay_32 : decode cX11_lay 32 = .ok (.istore 5, 2) := by decide +kernel
theorem dX11_lay_34 : decode cX11_lay 34 = .ok (.iload 5, 2) := by decide +kernel
theorem dX11_lay_36 : decode cX11_lay 36 = .ok (.ifCond .eq 10, 3) := by decide +kernel
theorem dX11_lay_39 : decode cX11_lay 39 = .ok (.aload_n 0, 1) := by decide +kernel
theorem dX11_lay_40 : decode cX11_lay 40 = .ok (.iload 5, 2) := by decide +kernel
theorem dX11_lay_42 : decode cX11_lay 42 = .ok (.invokevirtual 173, 3) := by decide +kernel
theorem dX11_lay_45 : decode cX11_lay 45 = .ok (.ireturn, 1) := by decide +kernel
theorem dX11_lay_46 : decode cX11_lay 46 = .ok (.aload_n 0, 1) := by decide +kernel
theorem dX11_lay_47 : decode cX11_lay 47 = .ok (.getfield 58, 3) := by decide +kernel
theorem dX11_lay_50 : decode cX11_lay 50 = .ok (.iload_n 1, 1) := by decide +kernel
theorem dX11_lay_51 : decode cX11_lay 51 = .ok (.aaload, 1) := by decide +kernel
theorem dX11_lay_52 : decode cX11_lay 52 = .ok (.iload_n 3, 1) := by decide +kernel
theorem dX11_lay_53 : decode cX11_lay 53 = .ok (.iload 4, 2) := by decide +kernel
theorem dX11_lay_55 : decode cX11_lay 55 = .ok (.invokevirtual 314, 3) := by decide +kernel
theorem dX11_lay_58 : decode cX11_lay 58 = .ok (.iconst 1, 1) := by decide +kernel
theorem dX11_lay_59 : decode cX11_lay 59 = .ok (.ireturn, 1) := by decide +kernel
theorem dX11_get_0 : decode cX11_get 0 = .ok (.iload_n 1, 1) := by decide +kernel
theorem dX11_get_1 : decode cX11_get 1 = .ok (.iconst 0, 1) := by decide +kernel
theorem dX11_get_2 : decode cX11_get 2 = .ok (.iconst 3, 1) := by decide +kernel
theorem dX11_get_3 : decode cX11_get 3 = .ok (.invokestatic 102, 3) := by decide +kernel
theorem dX11_get_6 : decode cX11_get 6 = .ok (.ifCond .eq 12, 3) := by decide +kernel
theorem dX11_get_9 : decode cX11_get 9 = .ok (.iload_n 2, 1) := by decide +kernel
theorem dX11_get_10 : decode cX11_get 10 = .ok (.iconst 0, 1) := by decide +kernel
theorem dX11_get_11 : decode cX11_get 11 = .ok (.iconst 2, 1) := by decide +kernel
theorem dX11_get_12 : decode cX11_get 12 = .ok (.invokestatic 102, 3) := by decide +kernel
theorem dX11_get_15 : decode cX11_get 15 = .ok (.ifCond .ne 7, 3) := by decide +kernel
theorem dX11_get_18 : decode cX11_get 18 = .ok (.ldc_w 317, 3) := by decide +kernel
theorem dX11_get_21 : decode cX11_get 21 = .ok (.ireturn, 1) := by decide +kernel
theorem dX11_get_22 : decode cX11_get 22 = .ok (.aload_n 0, 1) := by decide +kernel
theorem dX11_get_23 : decode cX11_get 23 = .ok (.getfield 58, 3) := by decide +kernel
theorem dX11_get_26 : decode cX11_get 26 = .ok (.iload_n 1, 1) := by decide +kernel
theorem dX11_get_27 : decode cX11_get 27 = .ok (.aaload, 1) := by decide +kernel
theorem dX11_get_28 : decode cX11_get 28 = .ok (.iload_n 2, 1) := by decide +kernel
theorem dX11_get_29 : decode cX11_get 29 = .ok (.iload_n 3, 1) := by decide +kernel
theorem dX11_get_30 : decode cX11_get 30 = .ok (.invokevirtual 311, 3) := by decide +kernel
theorem dX11_get_33 : decode cX11_get 33 = .ok (.istore 4, 2) := by decide +kernel
theorem dX11_get_35 : decode cX11_get 35 = .ok (.iload 4, 2) := by decide +kernel
theorem dX11_get_37 : decode cX11_get 37 = .ok (.ifCond .eq 14, 3) := by decide +kernel
theorem dX11_get_40 : decode cX11_get 40 = .ok (.aload_n 0, 1) := by decide +kernel
theorem dX11_get_41 : decode cX11_get 41 = .ok (.iload 4, 2) := by decide +kernel
theorem dX11_get_43 : decode cX11_get 43 = .ok (.invokevirtual 173, 3) := by decide +kernel
theorem dX11_get_46 : decode cX11_get 46 = .ok (.pop, 1) := by decide +kernel
theorem dX11_get_47 : decode cX11_get 47 = .ok (.ldc_w 317, 3) := by decide +kernel
theorem dX11_get_50 : decode cX11_get 50 = .ok (.ireturn, 1) := by decide +kernel
theorem dX11_get_51 : decode cX11_get 51 = .ok (.aload_n 0, 1) := by decide +kernel
theorem dX11_get_52 : decode cX11_get 52 = .ok (.getfield 58, 3) := by decide +kernel
theorem dX11_get_55 : decode cX11_get 55 = .ok (.iload_n 1, 1) := by decide +kernel
theorem dX11_get_56 : decode cX11_get 56 = .ok (.aaload, 1) := by decide +kernel
theorem dX11_get_57 : decode cX11_get 57 = .ok (.iload_n 3, 1) := by decide +kernel
theorem dX11_get_58 : decode cX11_get 58 = .ok (.invokevirtual 178, 3) := by decide +kernel
theorem dX11_get_61 : decode cX11_get 61 = .ok (.ireturn, 1) := by decide +kernel
theorem dX11_copy_0 : decode cX11_copy 0 = .ok (.iload_n 1, 1) := by decide +kernel
theorem dX11_copy_1 : decode cX11_copy 1 = .ok (.iconst 0, 1) := by decide +kernel
theorem dX11_copy_2 : decode cX11_copy 2 = .ok (.iconst 3, 1) := by decide +kernel
theorem dX11_copy_3 : decode cX11_copy 3 = .ok (.invokestatic 102, 3) := by decide +kernel
theorem dX11_copy_6 : decode cX11_copy 6 = .ok (.ifCond .eq 12, 3) := by decide +kernel
theorem dX11_copy_9 : decode cX11_copy 9 = .ok (.iload_n 3, 1) := by decide +kernel
theorem dX11_copy_10 : decode cX11_copy 10 = .ok (.iconst 0, 1) := by decide +kernel
theorem dX11_copy_11 : decode cX11_copy 11 = .ok (.iconst 3, 1) := by decide +kernel
theorem dX11_copy_12 : decode cX11_copy 12 = .ok (.invokestatic 102, 3) := by decide +kernel
theorem dX11_copy_15 : decode cX11_copy 15 = .ok (.ifCond .ne 6, 3) := by decide +kernel
theorem dX11_copy_18 : decode cX11_copy 18 = .ok (.bipush (-2), 2) := by decide +kernel
theorem dX11_copy_20 : decode cX11_copy 20 = .ok (.ireturn, 1) := by decide +kernel
theorem dX11_copy_21 : decode cX11_copy 21 = .ok (.aload_n 0, 1) := by decide +kernel
theorem dX11_copy_22 : decode cX11_copy 22 = .ok (.getfield 58, 3) := by decide +kernel
theorem dX11_copy_25 : decode cX11_copy 25 = .ok (.iload_n 1, 1) := by decide +kernel
theorem dX11_copy_26 : decode cX11_copy 26 = .ok (.aaload, 1) := by decide +kernel
theorem dX11_copy_27 : decode cX11_copy 27 = .ok (.astore 6, 2) := by decide +kernel
theorem dX11_copy_29 : decode cX11_copy 29 = .ok (.aload_n 0, 1) := by decide +kernel
theorem dX11_copy_30 : decode cX11_copy 30 = .ok (.getfield 58, 3) := by decide +kernel
theorem dX11_copy_33 : decode cX11_copy 33 = .ok (.iload_n 3, 1) := by decide +kernel
theorem dX11_copy_34 : decode cX11_copy 34 = .ok (.aaload, 1) := by decide +kernel
theorem dX11_copy_35 : decode cX11_copy 35 = .ok (.astore 7, 2) := by decide +kernel
theorem dX11_copy_37 : decode cX11_copy 37 = .ok (.aload 6, 2) := by decide +kernel
theorem dX11_copy_39 : decode cX11_copy 39 = .ok (.invokevirtual 169, 3) := by decide +kernel
theorem dX11_copy_42 : decode cX11_copy 42 = .ok (.ifCond .ne 11, 3) := by decide +kernel
theorem dX11_copy_45 : decode cX11_copy 45 = .ok (.aload 7, 2) := by decide +kernel
theorem dX11_copy_47 : decode cX11_copy 47 = .ok (.invokevirtual 169, 3) := by decide +kernel
theorem dX11_copy_50 : decode cX11_copy 50 = .ok (.ifCond .eq 9, 3) := by decide +kernel
theorem dX11_copy_53 : decode cX11_copy 53 = .ok (.aload_n 0, 1) := by decide +kernel
theorem dX11_copy_54 : decode cX11_copy 54 = .ok (.iconst 1, 1) := by decide +kernel
theorem dX11_copy_55 : decode cX11_copy 55 = .ok (.invokevirtual 173, 3) := by decide +kernel
theorem dX11_copy_58 : decode cX11_copy 58 = .ok (.ireturn, 1) := by decide +kernel
theorem dX11_copy_59 : decode cX11_copy 59 = .ok (.aload 6, 2) := by decide +kernel
theorem dX11_copy_61 : decode cX11_copy 61 = .ok (.getfield 318, 3) := by decide +kernel
theorem dX11_copy_64 : decode cX11_copy 64 = .ok (.aload 7, 2) := by decide +kernel
theorem dX11_copy_66 : decode cX11_copy 66 = .ok (.getfield 318, 3) := by decide +kernel
theorem dX11_copy_69 : decode cX11_copy 69 = .ok (.if_icmp .eq 9, 3) := by decide +kernel
theorem dX11_copy_72 : decode cX11_copy 72 = .ok (.aload_n 0, 1) := by decide +kernel
theorem dX11_copy_73 : decode cX11_copy 73 = .ok (.iconst 4, 1) := by decide +kernel
theorem dX11_copy_74 : decode cX11_copy 74 = .ok (.invokevirtual 173, 3) := by decide +kernel
theorem dX11_copy_77 : decode cX11_copy 77 = .ok (.ireturn, 1) := by decide +kernel
theorem dX11_copy_78 : decode cX11_copy 78 = .ok (.aload 6, 2) := by decide +kernel
theorem dX11_copy_80 : decode cX11_copy 80 = .ok (.iload_n 2, 1) := by decide +kernel
theorem dX11_copy_81 : decode cX11_copy 81 = .ok (.iload 5, 2) := by decide +kernel
theorem dX11_copy_83 : decode cX11_copy 83 = .ok (.invokevirtual 321, 3) := by decide +kernel
theorem dX11_copy_86 : decode cX11_copy 86 = .ok (.ifCond .eq 15, 3) := by decide +kernel
theorem dX11_copy_89 : decode cX11_copy 89 = .ok (.aload 7, 2) := by decide +kernel
theorem dX11_copy_91 : decode cX11_copy 91 = .ok (.iload 4, 2) := by decide +kernel
theorem dX11_copy_93 : decode cX11_copy 93 = .ok (.iload 5, 2) := by decide +kernel
theorem dX11_copy_95 : decode cX11_copy 95 = .ok (.invokevirtual 321, 3) := by decide +kernel
theorem dX11_copy_98 : decode cX11_copy 98 = .ok (.ifCond .ne 9, 3) := by decide +kernel
theorem dX11_copy_101 : decode cX11_copy 101 = .ok (.aload_n 0, 1) := by decide +kernel
theorem dX11_copy_102 : decode cX11_copy 102 = .ok (.iconst 2, 1) := by decide +kernel
theorem dX11_copy_103 : decode cX11_copy 103 = .ok (.invokevirtual 173, 3) := by decide +kernel
theorem dX11_copy_106 : decode cX11_copy 106 = .ok (.ireturn, 1) := by decide +kernel
theorem dX11_copy_107 : decode cX11_copy 107 = .ok (.aload 6, 2) := by decide +kernel
theorem dX11_copy_109 : decode cX11_copy 109 = .ok (.getfield 324, 3) := by decide +kernel
theorem dX11_copy_112 : decode cX11_copy 112 = .ok (.iload_n 2, 1) := by decide +kernel
theorem dX11_copy_113 : decode cX11_copy 113 = .ok (.aload 7, 2) := by decide +kernel
theorem dX11_copy_115 : decode cX11_copy 115 = .ok (.getfield 324, 3) := by decide +kernel
theorem dX11_copy_118 : decode cX11_copy 118 = .ok (.iload 4, 2) := by decide +kernel
theorem dX11_copy_120 : decode cX11_copy 120 = .ok (.iload 5, 2) := by decide +kernel
theorem dX11_copy_122 : decode cX11_copy 122 = .ok (.invokestatic 327, 3) := by decide +kernel
theorem dX11_copy_125 : decode cX11_copy 125 = .ok (.iconst 1, 1) := by decide +kernel
theorem dX11_copy_126 : decode cX11_copy 126 = .ok (.ireturn, 1) := by decide +kernel
theorem dX11_write_0 : decode cX11_write 0 = .ok (.aload_n 0, 1) := by decide +kernel
theorem dX11_write_1 : decode cX11_write 1 = .ok (.iload_n 1, 1) := by decide +kernel
theorem dX11_write_2 : decode cX11_write 2 = .ok (.invokevirtual 151, 3) := by decide +kernel
theorem dX11_write_5 : decode cX11_write 5 = .ok (.ifCond .eq 12, 3) := by decide +kernel
theorem dX11_write_8 : decode cX11_write 8 = .ok (.iload_n 2, 1) := by decide +kernel
theorem dX11_write_9 : decode cX11_write 9 = .ok (.iconst 0, 1) := by decide +kernel
theorem dX11_write_10 : decode cX11_write 10 = .ok (.iconst 3, 1) := by decide +kernel
theorem dX11_write_11 : decode cX11_write 11 = .ok (.invokestatic 102, 3) := by decide +kernel
theorem dX11_write_14 : decode cX11_write 14 = .ok (.ifCond .ne 6, 3) := by decide +kernel
theorem dX11_write_17 : decode cX11_write 17 = .ok (.bipush (-2), 2) := by decide +kernel
theorem dX11_write_19 : decode cX11_write 19 = .ok (.ireturn, 1) := by decide +kernel
theorem dX11_write_20 : decode cX11_write 20 = .ok (.aload_n 0, 1) := by decide +kernel
theorem dX11_write_21 : decode cX11_write 21 = .ok (.getfield 58, 3) := by decide +kernel
theorem dX11_write_24 : decode cX11_write 24 = .ok (.iload_n 2, 1) := by decide +kernel
theorem dX11_write_25 : decode cX11_write 25 = .ok (.aaload, 1) := by decide +kernel
theorem dX11_write_26 : decode cX11_write 26 = .ok (.invokevirtual 169, 3) := by decide +kernel
theorem dX11_write_29 : decode cX11_write 29 = .ok (.ifCond .eq 9, 3) := by decide +kernel
theorem dX11_write_32 : decode cX11_write 32 = .ok (.aload_n 0, 1) := by decide +kernel
theorem dX11_write_33 : decode cX11_write 33 = .ok (.iconst 1, 1) := by decide +kernel
theorem dX11_write_34 : decode cX11_write 34 = .ok (.invokevirtual 173, 3) := by decide +kernel
theorem dX11_write_37 : decode cX11_write 37 = .ok (.ireturn, 1) := by decide +kernel
theorem dX11_write_38 : decode cX11_write 38 = .ok (.aload_n 0, 1) := by decide +kernel
theorem dX11_write_39 : decode cX11_write 39 = .ok (.invokevirtual 181, 3) := by decide +kernel
theorem dX11_write_42 : decode cX11_write 42 = .ok (.aload_n 0, 1) := by decide +kernel
theorem dX11_write_43 : decode cX11_write 43 = .ok (.getfield 58, 3) := by decide +kernel
theorem dX11_write_46 : decode cX11_write 46 = .ok (.iload_n 2, 1) := by decide +kernel
theorem dX11_write_47 : decode cX11_write 47 = .ok (.aaload, 1) := by decide +kernel
theorem dX11_write_48 : decode cX11_write 48 = .ok (.getfield 177, 3) := by decide +kernel
theorem dX11_write_51 : decode cX11_write 51 = .ok (.bipush 20, 2) := by decide +kernel
theorem dX11_write_53 : decode cX11_write 53 = .ok (.invokestatic 333, 3) := by decide +kernel
theorem dX11_write_56 : decode cX11_write 56 = .ok (.istore_n 3, 1) := by decide +kernel
theorem dX11_write_57 : decode cX11_write 57 = .ok (.iconst 0, 1) := by decide +kernel
theorem dX11_write_58 : decode cX11_write 58 = .ok (.istore 4, 2) := by decide +kernel
theorem dX11_write_60 : decode cX11_write 60 = .ok (.iload 4, 2) := by decide +kernel
theorem dX11_write_62 : decode cX11_write 62 = .ok (.iload_n 3, 1) := by decide +kernel
theorem dX11_write_63 : decode cX11_write 63 = .ok (.if_icmp .ge 31, 3) := by decide +kernel
theorem dX11_write_66 : decode cX11_write 66 = .ok (.aload_n 0, 1) := by decide +kernel
theorem dX11_write_67 : decode cX11_write 67 = .ok (.getfield 58, 3) := by decide +kernel
theorem dX11_write_70 : decode cX11_write 70 = .ok (.iload_n 2, 1) := by decide +kernel
theorem dX11_write_71 : decode cX11_write 71 = .ok (.aaload, 1) := by decide +kernel
theorem dX11_write_72 : decode cX11_write 72 = .ok (.iload 4, 2) := by decide +kernel
theorem dX11_write_74 : decode cX11_write 74 = .ok (.aload_n 0, 1) := by decide +kernel
theorem dX11_write_75 : decode cX11_write 75 = .ok (.getfield 45, 3) := by decide +kernel
theorem dX11_write_78 : decode cX11_write 78 = .ok (.iload 4, 2) := by decide +kernel
theorem dX11_write_80 : decode cX11_write 80 = .ok (.iload_n 1, 1) := by decide +kernel
theorem dX11_write_81 : decode cX11_write 81 = .ok (.iconst 1, 1) := by decide +kernel
theorem dX11_write_82 : decode cX11_write 82 = .ok (.invokevirtual 184, 3) := by decide +kernel
theorem dX11_write_85 : decode cX11_write 85 = .ok (.invokevirtual 314, 3) := by decide +kernel
theorem dX11_write_88 : decode cX11_write 88 = .ok (.iinc 4 1, 3) := by decide +kernel
theorem dX11_write_91 : decode cX11_write 91 = .ok (.goto (-31), 3) := by decide +kernel
theorem dX11_write_94 : decode cX11_write 94 = .ok (.iload_n 3, 1) := by decide +kernel
theorem dX11_write_95 : decode cX11_write 95 = .ok (.ireturn, 1) := by decide +kernel
theorem dX11_count_0 : decode cX11_count 0 = .ok (.iload_n 1, 1) := by decide +kernel
theorem dX11_count_1 : decode cX11_count 1 = .ok (.tableswitch 130 0 8 #[51, 59, 67, 77, 87, 97, 105, 117, 125], 51) := by decide +kernel
theorem dX11_count_52 : decode cX11_count 52 = .ok (.aload_n 0, 1) := by decide +kernel
theorem dX11_count_53 : decode cX11_count 53 = .ok (.getfield 22, 3) := by decide +kernel
theorem dX11_count_56 : decode cX11_count 56 = .ok (.getfield 116, 3) := by decide +kernel
theorem dX11_count_59 : decode cX11_count 59 = .ok (.ireturn, 1) := by decide +kernel
theorem dX11_count_60 : decode cX11_count 60 = .ok (.aload_n 0, 1) := by decide +kernel
theorem dX11_count_61 : decode cX11_count 61 = .ok (.getfield 29, 3) := by decide +kernel
theorem dX11_count_64 : decode cX11_count 64 = .ok (.getfield 218, 3) := by decide +kernel
theorem dX11_count_67 : decode cX11_count 67 = .ok (.ireturn, 1) := by decide +kernel
theorem dX11_count_68 : decode cX11_count 68 = .ok (.aload_n 0, 1) := by decide +kernel
theorem dX11_count_69 : decode cX11_count 69 = .ok (.getfield 11, 3) := by decide +kernel
theorem dX11_count_72 : decode cX11_count 72 = .ok (.iconst 0, 1) := by decide +kernel
theorem dX11_count_73 : decode cX11_count 73 = .ok (.aaload, 1) := by decide +kernel
theorem dX11_count_74 : decode cX11_count 74 = .ok (.getfield 113, 3) := by decide +kernel
theorem dX11_count_77 : decode cX11_count 77 = .ok (.ireturn, 1) := by decide +kernel
theorem dX11_count_78 : decode cX11_count 78 = .ok (.aload_n 0, 1) := by decide +kernel
theorem dX11_count_79 : decode cX11_count 79 = .ok (.getfield 11, 3) := by decide +kernel
theorem dX11_count_82 : decode cX11_count 82 = .ok (.iconst 1, 1) := by decide +kernel
theorem dX11_count_83 : decode cX11_count 83 = .ok (.aaload, 1) := by decide +kernel
theorem dX11_count_84 : decode cX11_count 84 = .ok (.getfield 113, 3) := by decide +kernel
theorem dX11_count_87 : decode cX11_count 87 = .ok (.ireturn, 1) := by decide +kernel
theorem dX11_count_88 : decode cX11_count 88 = .ok (.aload_n 0, 1) := by decide +kernel
theorem dX11_count_89 : decode cX11_count 89 = .ok (.getfield 11, 3) := by decide +kernel
theorem dX11_count_92 : decode cX11_count 92 = .ok (.iconst 2, 1) := by decide +kernel
theorem dX11_count_93 : decode cX11_count 93 = .ok (.aaload, 1) := by decide +kernel
theorem dX11_count_94 : decode cX11_count 94 = .ok (.getfield 113, 3) := by decide +kernel
theorem dX11_count_97 : decode cX11_count 97 = .ok (.ireturn, 1) := by decide +kernel
theorem dX11_count_98 : decode cX11_count 98 = .ok (.aload_n 0, 1) := by decide +kernel
theorem dX11_count_99 : decode cX11_count 99 = .ok (.getfield 29, 3) := by decide +kernel
theorem dX11_count_102 : decode cX11_count 102 = .ok (.getfield 144, 3) := by decide +kernel
theorem dX11_count_105 : decode cX11_count 105 = .ok (.ireturn, 1) := by decide +kernel
theorem dX11_count_106 : decode cX11_count 106 = .ok (.aload_n 0, 1) := by decide +kernel
theorem dX11_count_107 : decode cX11_count 107 = .ok (.invokevirtual 181, 3) := by decide +kernel
theorem dX11_count_110 : decode cX11_count 110 = .ok (.aload_n 0, 1) := by decide +kernel
theorem dX11_count_111 : decode cX11_count 111 = .ok (.getfield 38, 3) := by decide +kernel
theorem dX11_count_114 : decode cX11_count 114 = .ok (.getfield 338, 3) := by decide +kernel
theorem dX11_count_117 : decode cX11_count 117 = .ok (.ireturn, 1) := by decide +kernel
theorem dX11_count_118 : decode cX11_count 118 = .ok (.aload_n 0, 1) := by decide +kernel
theorem dX11_count_119 : decode cX11_count 119 = .ok (.getfield 52, 3) := by decide +kernel
theorem dX11_count_122 : decode cX11_count 122 = .ok (.getfield 269, 3) := by decide +kernel
theorem dX11_count_125 : decode cX11_count 125 = .ok (.ireturn, 1) := by decide +kernel
theorem dX11_count_126 : decode cX11_count 126 = .ok (.aload_n 0, 1) := by decide +kernel
theorem dX11_count_127 : decode cX11_count 127 = .ok (.getfield 62, 3) := by decide +kernel
theorem dX11_count_130 : decode cX11_count 130 = .ok (.ireturn, 1) := by decide +kernel
theorem dX11_count_131 : decode cX11_count 131 = .ok (.bipush (-2), 2) := by decide +kernel
theorem dX11_count_133 : decode cX11_count 133 = .ok (.ireturn, 1) := by decide +kernel
theorem dX11_digest_0 : decode cX11_digest 0 = .ok (.aload_n 0, 1) := by decide +kernel
theorem dX11_digest_1 : decode cX11_digest 1 = .ok (.invokevirtual 181, 3) := by decide +kernel
theorem dX11_digest_4 : decode cX11_digest 4 = .ok (.ldc2_w 341, 3) := by decide +kernel
theorem dX11_digest_7 : decode cX11_digest 7 = .ok (.lstore_n 1, 1) := by decide +kernel
theorem dX11_digest_8 : decode cX11_digest 8 = .ok (.iconst 0, 1) := by decide +kernel
theorem dX11_digest_9 : decode cX11_digest 9 = .ok (.istore_n 3, 1) := by decide +kernel
theorem dX11_digest_10 : decode cX11_digest 10 = .ok (.iload_n 3, 1) := by decide +kernel
theorem dX11_digest_11 : decode cX11_digest 11 = .ok (.bipush 8, 2) := by decide +kernel
theorem dX11_digest_13 : decode cX11_digest 13 = .ok (.if_icmp .ge 20, 3) := by decide +kernel
theorem dX11_digest_16 : decode cX11_digest 16 = .ok (.lload_n 1, 1) := by decide +kernel
theorem dX11_digest_17 : decode cX11_digest 17 = .ok (.aload_n 0, 1) := by decide +kernel
theorem dX11_digest_18 : decode cX11_digest 18 = .ok (.iload_n 3, 1) := by decide +kernel
theorem dX11_digest_19 : decode cX11_digest 19 = .ok (.invokevirtual 343, 3) := by decide +kernel
theorem dX11_digest_22 : decode cX11_digest 22 = .ok (.i2l, 1) := by decide +kernel
theorem dX11_digest_23 : decode cX11_digest 23 = .ok (.invokestatic 346, 3) := by decide +kernel
theorem dX11_digest_26 : decode cX11_digest 26 = .ok (.lstore_n 1, 1) := by decide +kernel
theorem dX11_digest_27 : decode cX11_digest 27 = .ok (.iinc 3 1, 3) := by decide +kernel
theorem dX11_digest_30 : decode cX11_digest 30 = .ok (.goto (-20), 3) := by decide +kernel
theorem dX11_digest_33 : decode cX11_digest 33 = .ok (.iconst 0, 1) := by decide +kernel
theorem dX11_digest_34 : decode cX11_digest 34 = .ok (.istore_n 3, 1) := by decide +kernel
theorem dX11_digest_35 : decode cX11_digest 35 = .ok (.iload_n 3, 1) := by decide +kernel
theorem dX11_digest_36 : decode cX11_digest 36 = .ok (.iconst 3, 1) := by decide +kernel
theorem dX11_digest_37 : decode cX11_digest 37 = .ok (.if_icmp .ge 21, 3) := by decide +kernel
theorem dX11_digest_40 : decode cX11_digest 40 = .ok (.lload_n 1, 1) := by decide +kernel
theorem dX11_digest_41 : decode cX11_digest 41 = .ok (.aload_n 0, 1) := by decide +kernel
theorem dX11_digest_42 : decode cX11_digest 42 = .ok (.getfield 15, 3) := by decide +kernel
theorem dX11_digest_45 : decode cX11_digest 45 = .ok (.iload_n 3, 1) := by decide +kernel
theorem dX11_digest_46 : decode cX11_digest 46 = .ok (.iaload, 1) := by decide +kernel
theorem dX11_digest_47 : decode cX11_digest 47 = .ok (.i2l, 1) := by decide +kernel
theorem dX11_digest_48 : decode cX11_digest 48 = .ok (.invokestatic 346, 3) := by decide +kernel
theorem dX11_digest_51 : decode cX11_digest 51 = .ok (.lstore_n 1, 1) := by decide +kernel
theorem dX11_digest_52 : decode cX11_digest 52 = .ok (.iinc 3 1, 3) := by decide +kernel
theorem dX11_digest_55 : decode cX11_digest 55 = .ok (.goto (-20), 3) := by decide +kernel
theorem dX11_digest_58 : decode cX11_digest 58 = .ok (.iconst 0, 1) := by decide +kernel
theorem dX11_digest_59 : decode cX11_digest 59 = .ok (.istore_n 3, 1) := by decide +kernel
theorem dX11_digest_60 : decode cX11_digest 60 = .ok (.iload_n 3, 1) := by decide +kernel
theorem dX11_digest_61 : decode cX11_digest 61 = .ok (.aload_n 0, 1) := by decide +kernel
theorem dX11_digest_62 : decode cX11_digest 62 = .ok (.getfield 22, 3) := by decide +kernel
theorem dX11_digest_65 : decode cX11_digest 65 = .ok (.getfield 116, 3) := by decide +kernel
theorem dX11_digest_68 : decode cX11_digest 68 = .ok (.if_icmp .ge 20, 3) := by decide +kernel
theorem dX11_digest_71 : decode cX11_digest 71 = .ok (.lload_n 1, 1) := by decide +kernel
theorem dX11_digest_72 : decode cX11_digest 72 = .ok (.aload_n 0, 1) := by decide +kernel
theorem dX11_digest_73 : decode cX11_digest 73 = .ok (.iload_n 3, 1) := by decide +kernel
theorem dX11_digest_74 : decode cX11_digest 74 = .ok (.invokevirtual 350, 3) := by decide +kernel
theorem dX11_digest_77 : decode cX11_digest 77 = .ok (.i2l, 1) := by decide +kernel
theorem dX11_digest_78 : decode cX11_digest 78 = .ok (.invokestatic 346, 3) := by decide +kernel
theorem dX11_digest_81 : decode cX11_digest 81 = .ok (.lstore_n 1, 1) := by decide +kernel
theorem dX11_digest_82 : decode cX11_digest 82 = .ok (.iinc 3 1, 3) := by decide +kernel
theorem dX11_digest_85 : decode cX11_digest 85 = .ok (.goto (-25), 3) := by decide +kernel
theorem dX11_digest_88 : decode cX11_digest 88 = .ok (.iconst 0, 1) := by decide +kernel
theorem dX11_digest_89 : decode cX11_digest 89 = .ok (.istore_n 3, 1) := by decide +kernel
theorem dX11_digest_90 : decode cX11_digest 90 = .ok (.iload_n 3, 1) := by decide +kernel
theorem dX11_digest_91 : decode cX11_digest 91 = .ok (.bipush 20, 2) := by decide +kernel
theorem dX11_digest_93 : decode cX11_digest 93 = .ok (.if_icmp .ge 24, 3) := by decide +kernel
theorem dX11_digest_96 : decode cX11_digest 96 = .ok (.lload_n 1, 1) := by decide +kernel
theorem dX11_digest_97 : decode cX11_digest 97 = .ok (.aload_n 0, 1) := by decide +kernel
theorem dX11_digest_98 : decode cX11_digest 98 = .ok (.getfield 29, 3) := by decide +kernel
theorem dX11_digest_101 : decode cX11_digest 101 = .ok (.getfield 134, 3) := by decide +kernel
theorem dX11_digest_104 : decode cX11_digest 104 = .ok (.iload_n 3, 1) := by decide +kernel
theorem dX11_digest_105 : decode cX11_digest 105 = .ok (.iaload, 1) := by decide +kernel
theorem dX11_digest_106 : decode cX11_digest 106 = .ok (.i2l, 1) := by decide +kernel
theorem dX11_digest_107 : decode cX11_digest 107 = .ok (.invokestatic 346, 3) := by decide +kernel
theorem dX11_digest_110 : decode cX11_digest 110 = .ok (.lstore_n 1, 1) := by decide +kernel
theorem dX11_digest_111 : decode cX11_digest 111 = .ok (.iinc 3 1, 3) := by decide +kernel
theorem dX11_digest_114 : decode cX11_digest 114 = .ok (.goto (-24), 3) := by decide +kernel
theorem dX11_digest_117 : decode cX11_digest 117 = .ok (.iconst 0, 1) := by decide +kernel
theorem dX11_digest_118 : decode cX11_digest 118 = .ok (.istore_n 3, 1) := by decide +kernel
theorem dX11_digest_119 : decode cX11_digest 119 = .ok (.iload_n 3, 1) := by decide +kernel
theorem dX11_digest_120 : decode cX11_digest 120 = .ok (.aload_n 0, 1) := by decide +kernel
theorem dX11_digest_121 : decode cX11_digest 121 = .ok (.getfield 29, 3) := by decide +kernel
theorem dX11_digest_124 : decode cX11_digest 124 = .ok (.getfield 144, 3) := by decide +kernel
theorem dX11_digest_127 : decode cX11_digest 127 = .ok (.if_icmp .ge 16, 3) := by decide +kernel
theorem dX11_digest_130 : decode cX11_digest 130 = .ok (.aload_n 0, 1) := by decide +kernel
theorem dX11_digest_131 : decode cX11_digest 131 = .ok (.lload_n 1, 1) := by decide +kernel
theorem dX11_digest_132 : decode cX11_digest 132 = .ok (.iload_n 3, 1) := by decide +kernel
theorem dX11_digest_133 : decode cX11_digest 133 = .ok (.invokevirtual 353, 3) := by decide +kernel
theorem dX11_digest_136 : decode cX11_digest 136 = .ok (.lstore_n 1, 1) := by decide +kernel
theorem dX11_digest_137 : decode cX11_digest 137 = .ok (.iinc 3 1, 3) := by decide +kernel
theorem dX11_digest_140 : decode cX11_digest 140 = .ok (.goto (-21), 3) := by decide +kernel
theorem dX11_digest_143 : decode cX11_digest 143 = .ok (.aload_n 0, 1) := by decide +kernel
theorem dX11_digest_144 : decode cX11_digest 144 = .ok (.getfield 98, 3) := by decide +kernel
theorem dX11_digest_147 : decode cX11_digest 147 = .ok (.iconst 5, 1) := by decide +kernel
theorem dX11_digest_148 : decode cX11_digest 148 = .ok (.iconst 5, 1) := by decide +kernel
theorem dX11_digest_149 : decode cX11_digest 149 = .ok (.invokevirtual 288, 3) := by decide +kernel
theorem dX11_digest_152 : decode cX11_digest 152 = .ok (.iconst 0, 1) := by decide +kernel
theorem dX11_digest_153 : decode cX11_digest 153 = .ok (.istore_n 3, 1) := by decide +kernel
theorem dX11_digest_154 : decode cX11_digest 154 = .ok (.iload_n 3, 1) := by decide +kernel
theorem dX11_digest_155 : decode cX11_digest 155 = .ok (.aload_n 0, 1) := by decide +kernel
theorem dX11_digest_156 : decode cX11_digest 156 = .ok (.getfield 29, 3) := by decide +kernel
theorem dX11_digest_159 : decode cX11_digest 159 = .ok (.getfield 218, 3) := by decide +kernel
theorem dX11_digest_162 : decode cX11_digest 162 = .ok (.if_icmp .ge 16, 3) := by decide +kernel
theorem dX11_digest_165 : decode cX11_digest 165 = .ok (.aload_n 0, 1) := by decide +kernel
theorem dX11_digest_166 : decode cX11_digest 166 = .ok (.lload_n 1, 1) := by decide +kernel
theorem dX11_digest_167 : decode cX11_digest 167 = .ok (.iload_n 3, 1) := by decide +kernel
theorem dX11_digest_168 : decode cX11_digest 168 = .ok (.invokevirtual 357, 3) := by decide +kernel
theorem dX11_digest_171 : decode cX11_digest 171 = .ok (.lstore_n 1, 1) := by decide +kernel
theorem dX11_digest_172 : decode cX11_digest 172 = .ok (.iinc 3 1, 3) := by decide +kernel
theorem dX11_digest_175 : decode cX11_digest 175 = .ok (.goto (-21), 3) := by decide +kernel
theorem dX11_digest_178 : decode cX11_digest 178 = .ok (.iconst 0, 1) := by decide +kernel
theorem dX11_digest_179 : decode cX11_digest 179 = .ok (.istore_n 3, 1) := by decide +kernel
theorem dX11_digest_180 : decode cX11_digest 180 = .ok (.iload_n 3, 1) := by decide +kernel
theorem dX11_digest_181 : decode cX11_digest 181 = .ok (.iconst 4, 1) := by decide +kernel
theorem dX11_digest_182 : decode cX11_digest 182 = .ok (.if_icmp .ge 16, 3) := by decide +kernel
theorem dX11_digest_185 : decode cX11_digest 185 = .ok (.aload_n 0, 1) := by decide +kernel
theorem dX11_digest_186 : decode cX11_digest 186 = .ok (.lload_n 1, 1) := by decide +kernel
theorem dX11_digest_187 : decode cX11_digest 187 = .ok (.iload_n 3, 1) := by decide +kernel
theorem dX11_digest_188 : decode cX11_digest 188 = .ok (.invokevirtual 360, 3) := by decide +kernel
theorem dX11_digest_191 : decode cX11_digest 191 = .ok (.lstore_n 1, 1) := by decide +kernel
theorem dX11_digest_192 : decode cX11_digest 192 = .ok (.iinc 3 1, 3) := by decide +kernel
theorem dX11_digest_195 : decode cX11_digest 195 = .ok (.goto (-15), 3) := by decide +kernel
theorem dX11_digest_198 : decode cX11_digest 198 = .ok (.aload_n 0, 1) := by decide +kernel
theorem dX11_digest_199 : decode cX11_digest 199 = .ok (.lload_n 1, 1) := by decide +kernel
theorem dX11_digest_200 : decode cX11_digest 200 = .ok (.invokevirtual 363, 3) := by decide +kernel
theorem dX11_digest_203 : decode cX11_digest 203 = .ok (.lreturn, 1) := by decide +kernel
theorem dX11_digestRing_0 : decode cX11_digestRing 0 = .ok (.lload_n 1, 1) := by decide +kernel
theorem dX11_digestRing_1 : decode cX11_digestRing 1 = .ok (.lstore 4, 2) := by decide +kernel
theorem dX11_digestRing_3 : decode cX11_digestRing 3 = .ok (.iconst 0, 1) := by decide +kernel
theorem dX11_digestRing_4 : decode cX11_digestRing 4 = .ok (.istore 6, 2) := by decide +kernel
theorem dX11_digestRing_6 : decode cX11_digestRing 6 = .ok (.iload 6, 2) := by decide +kernel
theorem dX11_digestRing_8 : decode cX11_digestRing 8 = .ok (.iconst 5, 1) := by decide +kernel
theorem dX11_digestRing_9 : decode cX11_digestRing 9 = .ok (.if_icmp .ge 24, 3) := by decide +kernel
theorem dX11_digestRing_12 : decode cX11_digestRing 12 = .ok (.lload 4, 2) := by decide +kernel
theorem dX11_digestRing_14 : decode cX11_digestRing 14 = .ok (.aload_n 0, 1) := by decide +kernel
theorem dX11_digestRing_15 : decode cX11_digestRing 15 = .ok (.iload_n 3, 1) := by decide +kernel
theorem dX11_digestRing_16 : decode cX11_digestRing 16 = .ok (.iload 6, 2) := by decide +kernel
theorem dX11_digestRing_18 : decode cX11_digestRing 18 = .ok (.invokevirtual 367, 3) := by decide +kernel
theorem dX11_digestRing_21 : decode cX11_digestRing 21 = .ok (.i2l, 1) := by decide +kernel
theorem dX11_digestRing_22 : decode cX11_digestRing 22 = .ok (.invokestatic 346, 3) := by decide +kernel
theorem dX11_digestRing_25 : decode cX11_digestRing 25 = .ok (.lstore 4, 2) := by decide +kernel
theorem dX11_digestRing_27 : decode cX11_digestRing 27 = .ok (.iinc 6 1, 3) := by decide +kernel
theorem dX11_digestRing_30 : decode cX11_digestRing 30 = .ok (.goto (-24), 3) := by decide +kernel
theorem dX11_digestRing_33 : decode cX11_digestRing 33 = .ok (.iconst 0, 1) := by decide +kernel
theorem dX11_digestRing_34 : decode cX11_digestRing 34 = .ok (.istore 6, 2) := by decide +kernel
theorem dX11_digestRing_36 : decode cX11_digestRing 36 = .ok (.iload 6, 2) := by decide +kernel
theorem dX11_digestRing_38 : decode cX11_digestRing 38 = .ok (.getstatic 370, 3) := by decide +kernel
theorem dX11_digestRing_41 : decode cX11_digestRing 41 = .ok (.arraylength, 1) := by decide +kernel
theorem dX11_digestRing_42 : decode cX11_digestRing 42 = .ok (.if_icmp .ge 48, 3) := by decide +kernel
theorem dX11_digestRing_45 : decode cX11_digestRing 45 = .ok (.iconst 0, 1) := by decide +kernel
theorem dX11_digestRing_46 : decode cX11_digestRing 46 = .ok (.istore 7, 2) := by decide +kernel
theorem dX11_digestRing_48 : decode cX11_digestRing 48 = .ok (.iload 7, 2) := by decide +kernel
theorem dX11_digestRing_50 : decode cX11_digestRing 50 = .ok (.iconst 4, 1) := by decide +kernel
theorem dX11_digestRing_51 : decode cX11_digestRing 51 = .ok (.if_icmp .ge 33, 3) := by decide +kernel
theorem dX11_digestRing_54 : decode cX11_digestRing 54 = .ok (.lload 4, 2) := by decide +kernel
theorem dX11_digestRing_56 : decode cX11_digestRing 56 = .ok (.aload_n 0, 1) := by decide +kernel
theorem dX11_digestRing_57 : decode cX11_digestRing 57 = .ok (.getfield 45, 3) := by decide +kernel
theorem dX11_digestRing_60 : decode cX11_digestRing 60 = .ok (.getstatic 370, 3) := by decide +kernel
theorem dX11_digestRing_63 : decode cX11_digestRing 63 = .ok (.iload 6, 2) := by decide +kernel
theorem dX11_digestRing_65 : decode cX11_digestRing 65 = .ok (.iaload, 1) := by decide +kernel
theorem dX11_digestRing_66 : decode cX11_digestRing 66 = .ok (.iload_n 3, 1) := by decide +kernel
theorem dX11_digestRing_67 : decode cX11_digestRing 67 = .ok (.iload 7, 2) := by decide +kernel
theorem dX11_digestRing_69 : decode cX11_digestRing 69 = .ok (.invokevirtual 184, 3) := by decide +kernel
theorem dX11_digestRing_72 : decode cX11_digestRing 72 = .ok (.i2l, 1) := by decide +kernel
theorem dX11_digestRing_73 : decode cX11_digestRing 73 = .ok (.invokestatic 346, 3) := by decide +kernel
theorem dX11_digestRing_76 : decode cX11_digestRing 76 = .ok (.lstore 4, 2) := by decide +kernel
theorem dX11_digestRing_78 : decode cX11_digestRing 78 = .ok (.iinc 7 1, 3) := by decide +kernel
theorem dX11_digestRing_81 : decode cX11_digestRing 81 = .ok (.goto (-33), 3) := by decide +kernel
theorem dX11_digestRing_84 : decode cX11_digestRing 84 = .ok (.iinc 6 1, 3) := by decide +kernel
theorem dX11_digestRing_87 : decode cX11_digestRing 87 = .ok (.goto (-51), 3) := by decide +kernel
theorem dX11_digestRing_90 : decode cX11_digestRing 90 = .ok (.aload_n 0, 1) := by decide +kernel
theorem dX11_digestRing_91 : decode cX11_digestRing 91 = .ok (.getfield 82, 3) := by decide +kernel
theorem dX11_digestRing_94 : decode cX11_digestRing 94 = .ok (.iload_n 3, 1) := by decide +kernel
theorem dX11_digestRing_95 : decode cX11_digestRing 95 = .ok (.invokevirtual 225, 3) := by decide +kernel
theorem dX11_digestRing_98 : decode cX11_digestRing 98 = .ok (.lload 4, 2) := by decide +kernel
theorem dX11_digestRing_100 : decode cX11_digestRing 100 = .ok (.aload_n 0, 1) := by decide +kernel
theorem dX11_digestRing_101 : decode cX11_digestRing 101 = .ok (.getfield 82, 3) := by decide +kernel
theorem dX11_digestRing_104 : decode cX11_digestRing 104 = .ok (.getfield 228, 3) := by decide +kernel
theorem dX11_digestRing_107 : decode cX11_digestRing 107 = .ok (.i2l, 1) := by decide +kernel
theorem dX11_digestRing_108 : decode cX11_digestRing 108 = .ok (.invokestatic 346, 3) := by decide +kernel
theorem dX11_digestRing_111 : decode cX11_digestRing 111 = .ok (.lstore 4, 2) := by decide +kernel
theorem dX11_digestRing_113 : decode cX11_digestRing 113 = .ok (.lload 4, 2) := by decide +kernel
theorem dX11_digestRing_115 : decode cX11_digestRing 115 = .ok (.aload_n 0, 1) := by decide +kernel
theorem dX11_digestRing_116 : decode cX11_digestRing 116 = .ok (.getfield 82, 3) := by decide +kernel
theorem dX11_digestRing_119 : decode cX11_digestRing 119 = .ok (.getfield 231, 3) := by decide +kernel
theorem dX11_digestRing_122 : decode cX11_digestRing 122 = .ok (.i2l, 1) := by decide +kernel
theorem dX11_digestRing_123 : decode cX11_digestRing 123 = .ok (.invokestatic 346, 3) := by decide +kernel
theorem dX11_digestRing_126 : decode cX11_digestRing 126 = .ok (.lstore 4, 2) := by decide +kernel
theorem dX11_digestRing_128 : decode cX11_digestRing 128 = .ok (.lload 4, 2) := by decide +kernel
theorem dX11_digestRing_130 : decode cX11_digestRing 130 = .ok (.aload_n 0, 1) := by decide +kernel
theorem dX11_digestRing_131 : decode cX11_digestRing 131 = .ok (.getfield 82, 3) := by decide +kernel
theorem dX11_digestRing_134 : decode cX11_digestRing 134 = .ok (.getfield 234, 3) := by decide +kernel
theorem dX11_digestRing_137 : decode cX11_digestRing 137 = .ok (.i2l, 1) := by decide +kernel
theorem dX11_digestRing_138 : decode cX11_digestRing 138 = .ok (.invokestatic 346, 3) := by decide +kernel
theorem dX11_digestRing_141 : decode cX11_digestRing 141 = .ok (.lstore 4, 2) := by decide +kernel
theorem dX11_digestRing_143 : decode cX11_digestRing 143 = .ok (.lload 4, 2) := by decide +kernel
theorem dX11_digestRing_145 : decode cX11_digestRing 145 = .ok (.aload_n 0, 1) := by decide +kernel
theorem dX11_digestRing_146 : decode cX11_digestRing 146 = .ok (.iconst 0, 1) := by decide +kernel
theorem dX11_digestRing_147 : decode cX11_digestRing 147 = .ok (.invokevirtual 122, 3) := by decide +kernel
theorem dX11_digestRing_150 : decode cX11_digestRing 150 = .ok (.ifCond .eq 16, 3) := by decide +kernel
theorem dX11_digestRing_153 : decode cX11_digestRing 153 = .ok (.aload_n 0, 1) := by decide +kernel
theorem dX11_digestRing_154 : decode cX11_digestRing 154 = .ok (.getfield 82, 3) := by decide +kernel
theorem dX11_digestRing_157 : decode cX11_digestRing 157 = .ok (.iload_n 3, 1) := by decide +kernel
theorem dX11_digestRing_158 : decode cX11_digestRing 158 = .ok (.iconst 0, 1) := by decide +kernel
theorem dX11_digestRing_159 : decode cX11_digestRing 159 = .ok (.invokevirtual 221, 3) := by decide +kernel
theorem dX11_digestRing_162 : decode cX11_digestRing 162 = .ok (.i2l, 1) := by decide +kernel
theorem dX11_digestRing_163 : decode cX11_digestRing 163 = .ok (.goto 6, 3) := by decide +kernel
theorem dX11_digestRing_166 : decode cX11_digestRing 166 = .ok (.ldc2_w 373, 3) := by decide +kernel
theorem dX11_digestRing_169 : decode cX11_digestRing 169 = .ok (.invokestatic 346, 3) := by decide +kernel
theorem dX11_digestRing_172 : decode cX11_digestRing 172 = .ok (.lstore 4, 2) := by decide +kernel
theorem dX11_digestRing_174 : decode cX11_digestRing 174 = .ok (.aload_n 0, 1) := by decide +kernel
theorem dX11_digestRing_175 : decode cX11_digestRing 175 = .ok (.getfield 91, 3) := by decide +kernel
theorem dX11_digestRing_178 : decode cX11_digestRing 178 = .ok (.iload_n 3, 1) := by decide +kernel
theorem dX11_digestRing_179 : decode cX11_digestRing 179 = .ok (.invokevirtual 274, 3) := by decide +kernel
theorem dX11_digestRing_182 : decode cX11_digestRing 182 = .ok (.lload 4, 2) := by decide +kernel
theorem dX11_digestRing_184 : decode cX11_digestRing 184 = .ok (.aload_n 0, 1) := by decide +kernel
theorem dX11_digestRing_185 : decode cX11_digestRing 185 = .ok (.getfield 91, 3) := by decide +kernel
theorem dX11_digestRing_188 : decode cX11_digestRing 188 = .ok (.iconst (-1), 1) := by decide +kernel
theorem dX11_digestRing_189 : decode cX11_digestRing 189 = .ok (.invokevirtual 277, 3) := by decide +kernel
theorem dX11_digestRing_192 : decode cX11_digestRing 192 = .ok (.i2l, 1) := by decide +kernel
theorem dX11_digestRing_193 : decode cX11_digestRing 193 = .ok (.invokestatic 346, 3) := by decide +kernel
theorem dX11_digestRing_196 : decode cX11_digestRing 196 = .ok (.lstore 4, 2) := by decide +kernel
theorem dX11_digestRing_198 : decode cX11_digestRing 198 = .ok (.lload 4, 2) := by decide +kernel
theorem dX11_digestRing_200 : decode cX11_digestRing 200 = .ok (.aload_n 0, 1) := by decide +kernel
theorem dX11_digestRing_201 : decode cX11_digestRing 201 = .ok (.getfield 91, 3) := by decide +kernel
theorem dX11_digestRing_204 : decode cX11_digestRing 204 = .ok (.iconst 0, 1) := by decide +kernel
theorem dX11_digestRing_205 : decode cX11_digestRing 205 = .ok (.invokevirtual 277, 3) := by decide +kernel
theorem dX11_digestRing_208 : decode cX11_digestRing 208 = .ok (.i2l, 1) := by decide +kernel
theorem dX11_digestRing_209 : decode cX11_digestRing 209 = .ok (.invokestatic 346, 3) := by decide +kernel
theorem dX11_digestRing_212 : decode cX11_digestRing 212 = .ok (.lreturn, 1) := by decide +kernel
theorem dX11_digestThing_0 : decode cX11_digestThing 0 = .ok (.lload_n 1, 1) := by decide +kernel
theorem dX11_digestThing_1 : decode cX11_digestThing 1 = .ok (.lstore 4, 2) := by decide +kernel
theorem dX11_digestThing_3 : decode cX11_digestThing 3 = .ok (.iconst 0, 1) := by decide +kernel
theorem dX11_digestThing_4 : decode cX11_digestThing 4 = .ok (.istore 6, 2) := by decide +kernel
theorem dX11_digestThing_6 : decode cX11_digestThing 6 = .ok (.iload 6, 2) := by decide +kernel
theorem dX11_digestThing_8 : decode cX11_digestThing 8 = .ok (.iconst 3, 1) := by decide +kernel
theorem dX11_digestThing_9 : decode cX11_digestThing 9 = .ok (.if_icmp .ge 24, 3) := by decide +kernel
theorem dX11_digestThing_12 : decode cX11_digestThing 12 = .ok (.lload 4, 2) := by decide +kernel
theorem dX11_digestThing_14 : decode cX11_digestThing 14 = .ok (.aload_n 0, 1) := by decide +kernel
theorem dX11_digestThing_15 : decode cX11_digestThing 15 = .ok (.iload_n 3, 1) := by decide +kernel
theorem dX11_digestThing_16 : decode cX11_digestThing 16 = .ok (.iload 6, 2) := by decide +kernel
theorem dX11_digestThing_18 : decode cX11_digestThing 18 = .ok (.invokevirtual 375, 3) := by decide +kernel
theorem dX11_digestThing_21 : decode cX11_digestThing 21 = .ok (.i2l, 1) := by decide +kernel
theorem dX11_digestThing_22 : decode cX11_digestThing 22 = .ok (.invokestatic 346, 3) := by decide +kernel
theorem dX11_digestThing_25 : decode cX11_digestThing 25 = .ok (.lstore 4, 2) := by decide +kernel
theorem dX11_digestThing_27 : decode cX11_digestThing 27 = .ok (.iinc 6 1, 3) := by decide +kernel
theorem dX11_digestThing_30 : decode cX11_digestThing 30 = .ok (.goto (-24), 3) := by decide +kernel
theorem dX11_digestThing_33 : decode cX11_digestThing 33 = .ok (.lload 4, 2) := by decide +kernel
theorem dX11_digestThing_35 : decode cX11_digestThing 35 = .ok (.aload_n 0, 1) := by decide +kernel
theorem dX11_digestThing_36 : decode cX11_digestThing 36 = .ok (.getfield 38, 3) := by decide +kernel
theorem dX11_digestThing_39 : decode cX11_digestThing 39 = .ok (.getfield 188, 3) := by decide +kernel
theorem dX11_digestThing_42 : decode cX11_digestThing 42 = .ok (.iload_n 3, 1) := by decide +kernel
theorem dX11_digestThing_43 : decode cX11_digestThing 43 = .ok (.iaload, 1) := by decide +kernel
theorem dX11_digestThing_44 : decode cX11_digestThing 44 = .ok (.i2l, 1) := by decide +kernel
theorem dX11_digestThing_45 : decode cX11_digestThing 45 = .ok (.invokestatic 346, 3) := by decide +kernel
theorem dX11_digestThing_48 : decode cX11_digestThing 48 = .ok (.lstore 4, 2) := by decide +kernel
theorem dX11_digestThing_50 : decode cX11_digestThing 50 = .ok (.lload 4, 2) := by decide +kernel
theorem dX11_digestThing_52 : decode cX11_digestThing 52 = .ok (.aload_n 0, 1) := by decide +kernel
theorem dX11_digestThing_53 : decode cX11_digestThing 53 = .ok (.getfield 38, 3) := by decide +kernel
theorem dX11_digestThing_56 : decode cX11_digestThing 56 = .ok (.getfield 191, 3) := by decide +kernel
theorem dX11_digestThing_59 : decode cX11_digestThing 59 = .ok (.iload_n 3, 1) := by decide +kernel
theorem dX11_digestThing_60 : decode cX11_digestThing 60 = .ok (.iaload, 1) := by decide +kernel
theorem dX11_digestThing_61 : decode cX11_digestThing 61 = .ok (.i2l, 1) := by decide +kernel
theorem dX11_digestThing_62 : decode cX11_digestThing 62 = .ok (.invokestatic 346, 3) := by decide +kernel
theorem dX11_digestThing_65 : decode cX11_digestThing 65 = .ok (.lstore 4, 2) := by decide +kernel
theorem dX11_digestThing_67 : decode cX11_digestThing 67 = .ok (.lload 4, 2) := by decide +kernel
theorem dX11_digestThing_69 : decode cX11_digestThing 69 = .ok (.aload_n 0, 1) := by decide +kernel
theorem dX11_digestThing_70 : decode cX11_digestThing 70 = .ok (.getfield 38, 3) := by decide +kernel
theorem dX11_digestThing_73 : decode cX11_digestThing 73 = .ok (.getfield 194, 3) := by decide +kernel
theorem dX11_digestThing_76 : decode cX11_digestThing 76 = .ok (.iload_n 3, 1) := by decide +kernel
theorem dX11_digestThing_77 : decode cX11_digestThing 77 = .ok (.iaload, 1) := by decide +kernel
theorem dX11_digestThing_78 : decode cX11_digestThing 78 = .ok (.i2l, 1) := by decide +kernel
theorem dX11_digestThing_79 : decode cX11_digestThing 79 = .ok (.invokestatic 346, 3) := by decide +kernel
theorem dX11_digestThing_82 : decode cX11_digestThing 82 = .ok (.lstore 4, 2) := by decide +kernel
theorem dX11_digestThing_84 : decode cX11_digestThing 84 = .ok (.lload 4, 2) := by decide +kernel
theorem dX11_digestThing_86 : decode cX11_digestThing 86 = .ok (.aload_n 0, 1) := by decide +kernel
theorem dX11_digestThing_87 : decode cX11_digestThing 87 = .ok (.getfield 82, 3) := by decide +kernel
theorem dX11_digestThing_90 : decode cX11_digestThing 90 = .ok (.iload_n 3, 1) := by decide +kernel
theorem dX11_digestThing_91 : decode cX11_digestThing 91 = .ok (.invokevirtual 237, 3) := by decide +kernel
theorem dX11_digestThing_94 : decode cX11_digestThing 94 = .ok (.i2l, 1) := by decide +kernel
theorem dX11_digestThing_95 : decode cX11_digestThing 95 = .ok (.invokestatic 346, 3) := by decide +kernel
theorem dX11_digestThing_98 : decode cX11_digestThing 98 = .ok (.lstore 4, 2) := by decide +kernel
theorem dX11_digestThing_100 : decode cX11_digestThing 100 = .ok (.aload_n 0, 1) := by decide +kernel
theorem dX11_digestThing_101 : decode cX11_digestThing 101 = .ok (.getfield 82, 3) := by decide +kernel
theorem dX11_digestThing_104 : decode cX11_digestThing 104 = .ok (.iload_n 3, 1) := by decide +kernel
theorem dX11_digestThing_105 : decode cX11_digestThing 105 = .ok (.invokevirtual 240, 3) := by decide +kernel
theorem dX11_digestThing_108 : decode cX11_digestThing 108 = .ok (.lload 4, 2) := by decide +kernel
theorem dX11_digestThing_110 : decode cX11_digestThing 110 = .ok (.aload_n 0, 1) := by decide +kernel
theorem dX11_digestThing_111 : decode cX11_digestThing 111 = .ok (.getfield 82, 3) := by decide +kernel
theorem dX11_digestThing_114 : decode cX11_digestThing 114 = .ok (.getfield 243, 3) := by decide +kernel
theorem dX11_digestThing_117 : decode cX11_digestThing 117 = .ok (.iconst (-1), 1) := by decide +kernel
theorem dX11_digestThing_118 : decode cX11_digestThing 118 = .ok (.invokevirtual 247, 3) := by decide +kernel
theorem dX11_digestThing_121 : decode cX11_digestThing 121 = .ok (.i2l, 1) := by decide +kernel
theorem dX11_digestThing_122 : decode cX11_digestThing 122 = .ok (.invokestatic 346, 3) := by decide +kernel
theorem dX11_digestThing_125 : decode cX11_digestThing 125 = .ok (.lstore 4, 2) := by decide +kernel
theorem dX11_digestThing_127 : decode cX11_digestThing 127 = .ok (.lload 4, 2) := by decide +kernel
theorem dX11_digestThing_129 : decode cX11_digestThing 129 = .ok (.aload_n 0, 1) := by decide +kernel
theorem dX11_digestThing_130 : decode cX11_digestThing 130 = .ok (.getfield 82, 3) := by decide +kernel
theorem dX11_digestThing_133 : decode cX11_digestThing 133 = .ok (.getfield 243, 3) := by decide +kernel
theorem dX11_digestThing_136 : decode cX11_digestThing 136 = .ok (.iconst 0, 1) := by decide +kernel
theorem dX11_digestThing_137 : decode cX11_digestThing 137 = .ok (.invokevirtual 247, 3) := by decide +kernel
theorem dX11_digestThing_140 : decode cX11_digestThing 140 = .ok (.i2l, 1) := by decide +kernel
theorem dX11_digestThing_141 : decode cX11_digestThing 141 = .ok (.invokestatic 346, 3) := by decide +kernel
theorem dX11_digestThing_144 : decode cX11_digestThing 144 = .ok (.lstore 4, 2) := by decide +kernel
theorem dX11_digestThing_146 : decode cX11_digestThing 146 = .ok (.lload 4, 2) := by decide +kernel
theorem dX11_digestThing_148 : decode cX11_digestThing 148 = .ok (.aload_n 0, 1) := by decide +kernel
theorem dX11_digestThing_149 : decode cX11_digestThing 149 = .ok (.getfield 98, 3) := by decide +kernel
theorem dX11_digestThing_152 : decode cX11_digestThing 152 = .ok (.iload_n 3, 1) := by decide +kernel
theorem dX11_digestThing_153 : decode cX11_digestThing 153 = .ok (.iconst 0, 1) := by decide +kernel
theorem dX11_digestThing_154 : decode cX11_digestThing 154 = .ok (.invokevirtual 292, 3) := by decide +kernel
theorem dX11_digestThing_157 : decode cX11_digestThing 157 = .ok (.invokestatic 346, 3) := by decide +kernel
theorem dX11_digestThing_160 : decode cX11_digestThing 160 = .ok (.lstore 4, 2) := by decide +kernel
theorem dX11_digestThing_162 : decode cX11_digestThing 162 = .ok (.lload 4, 2) := by decide +kernel
theorem dX11_digestThing_164 : decode cX11_digestThing 164 = .ok (.aload_n 0, 1) := by decide +kernel
theorem dX11_digestThing_165 : decode cX11_digestThing 165 = .ok (.getfield 98, 3) := by decide +kernel
theorem dX11_digestThing_168 : decode cX11_digestThing 168 = .ok (.iload_n 3, 1) := by decide +kernel
theorem dX11_digestThing_169 : decode cX11_digestThing 169 = .ok (.iconst 0, 1) := by decide +kernel
theorem dX11_digestThing_170 : decode cX11_digestThing 170 = .ok (.invokevirtual 296, 3) := by decide +kernel
theorem dX11_digestThing_173 : decode cX11_digestThing 173 = .ok (.invokestatic 346, 3) := by decide +kernel
theorem dX11_digestThing_176 : decode cX11_digestThing 176 = .ok (.lreturn, 1) := by decide +kernel
theorem dX11_digestWhom_0 : decode cX11_digestWhom 0 = .ok (.lload_n 1, 1) := by decide +kernel
theorem dX11_digestWhom_1 : decode cX11_digestWhom 1 = .ok (.aload_n 0, 1) := by decide +kernel
theorem dX11_digestWhom_2 : decode cX11_digestWhom 2 = .ok (.getfield 38, 3) := by decide +kernel
theorem dX11_digestWhom_5 : decode cX11_digestWhom 5 = .ok (.aload_n 0, 1) := by decide +kernel
theorem dX11_digestWhom_6 : decode cX11_digestWhom 6 = .ok (.getfield 29, 3) := by decide +kernel
theorem dX11_digestWhom_9 : decode cX11_digestWhom 9 = .ok (.iload_n 3, 1) := by decide +kernel
theorem dX11_digestWhom_10 : decode cX11_digestWhom 10 = .ok (.invokevirtual 197, 3) := by decide +kernel
theorem dX11_digestWhom_13 : decode cX11_digestWhom 13 = .ok (.i2l, 1) := by decide +kernel
theorem dX11_digestWhom_14 : decode cX11_digestWhom 14 = .ok (.invokestatic 346, 3) := by decide +kernel
theorem dX11_digestWhom_17 : decode cX11_digestWhom 17 = .ok (.lstore 4, 2) := by decide +kernel
theorem dX11_digestWhom_19 : decode cX11_digestWhom 19 = .ok (.lload 4, 2) := by decide +kernel
theorem dX11_digestWhom_21 : decode cX11_digestWhom 21 = .ok (.aload_n 0, 1) := by decide +kernel
theorem dX11_digestWhom_22 : decode cX11_digestWhom 22 = .ok (.getfield 38, 3) := by decide +kernel
theorem dX11_digestWhom_25 : decode cX11_digestWhom 25 = .ok (.aload_n 0, 1) := by decide +kernel
theorem dX11_digestWhom_26 : decode cX11_digestWhom 26 = .ok (.getfield 29, 3) := by decide +kernel
theorem dX11_digestWhom_29 : decode cX11_digestWhom 29 = .ok (.iload_n 3, 1) := by decide +kernel
theorem dX11_digestWhom_30 : decode cX11_digestWhom 30 = .ok (.invokevirtual 201, 3) := by decide +kernel
theorem dX11_digestWhom_33 : decode cX11_digestWhom 33 = .ok (.i2l, 1) := by decide +kernel
theorem dX11_digestWhom_34 : decode cX11_digestWhom 34 = .ok (.invokestatic 346, 3) := by decide +kernel
theorem dX11_digestWhom_37 : decode cX11_digestWhom 37 = .ok (.lstore 4, 2) := by decide +kernel
theorem dX11_digestWhom_39 : decode cX11_digestWhom 39 = .ok (.aload_n 0, 1) := by decide +kernel
theorem dX11_digestWhom_40 : decode cX11_digestWhom 40 = .ok (.getfield 82, 3) := by decide +kernel
theorem dX11_digestWhom_43 : decode cX11_digestWhom 43 = .ok (.aload_n 0, 1) := by decide +kernel
theorem dX11_digestWhom_44 : decode cX11_digestWhom 44 = .ok (.getfield 38, 3) := by decide +kernel
theorem dX11_digestWhom_47 : decode cX11_digestWhom 47 = .ok (.iload_n 3, 1) := by decide +kernel
theorem dX11_digestWhom_48 : decode cX11_digestWhom 48 = .ok (.bipush 9, 2) := by decide +kernel
theorem dX11_digestWhom_50 : decode cX11_digestWhom 50 = .ok (.invokevirtual 261, 3) := by decide +kernel
theorem dX11_digestWhom_53 : decode cX11_digestWhom 53 = .ok (.lload 4, 2) := by decide +kernel
theorem dX11_digestWhom_55 : decode cX11_digestWhom 55 = .ok (.aload_n 0, 1) := by decide +kernel
theorem dX11_digestWhom_56 : decode cX11_digestWhom 56 = .ok (.getfield 82, 3) := by decide +kernel
theorem dX11_digestWhom_59 : decode cX11_digestWhom 59 = .ok (.getfield 243, 3) := by decide +kernel
theorem dX11_digestWhom_62 : decode cX11_digestWhom 62 = .ok (.iconst (-1), 1) := by decide +kernel
theorem dX11_digestWhom_63 : decode cX11_digestWhom 63 = .ok (.invokevirtual 247, 3) := by decide +kernel
theorem dX11_digestWhom_66 : decode cX11_digestWhom 66 = .ok (.i2l, 1) := by decide +kernel
theorem dX11_digestWhom_67 : decode cX11_digestWhom 67 = .ok (.invokestatic 346, 3) := by decide +kernel
theorem dX11_digestWhom_70 : decode cX11_digestWhom 70 = .ok (.lstore 4, 2) := by decide +kernel
theorem dX11_digestWhom_72 : decode cX11_digestWhom 72 = .ok (.lload 4, 2) := by decide +kernel
theorem dX11_digestWhom_74 : decode cX11_digestWhom 74 = .ok (.aload_n 0, 1) := by decide +kernel
theorem dX11_digestWhom_75 : decode cX11_digestWhom 75 = .ok (.getfield 82, 3) := by decide +kernel
theorem dX11_digestWhom_78 : decode cX11_digestWhom 78 = .ok (.getfield 243, 3) := by decide +kernel
theorem dX11_digestWhom_81 : decode cX11_digestWhom 81 = .ok (.iconst 0, 1) := by decide +kernel
theorem dX11_digestWhom_82 : decode cX11_digestWhom 82 = .ok (.invokevirtual 247, 3) := by decide +kernel
theorem dX11_digestWhom_85 : decode cX11_digestWhom 85 = .ok (.i2l, 1) := by decide +kernel
theorem dX11_digestWhom_86 : decode cX11_digestWhom 86 = .ok (.invokestatic 346, 3) := by decide +kernel
theorem dX11_digestWhom_89 : decode cX11_digestWhom 89 = .ok (.lreturn, 1) := by decide +kernel
theorem dX11_digestRest_0 : decode cX11_digestRest 0 = .ok (.lload_n 1, 1) := by decide +kernel
theorem dX11_digestRest_1 : decode cX11_digestRest 1 = .ok (.aload_n 0, 1) := by decide +kernel
theorem dX11_digestRest_2 : decode cX11_digestRest 2 = .ok (.getfield 38, 3) := by decide +kernel
theorem dX11_digestRest_5 : decode cX11_digestRest 5 = .ok (.getfield 204, 3) := by decide +kernel
theorem dX11_digestRest_8 : decode cX11_digestRest 8 = .ok (.i2l, 1) := by decide +kernel
theorem dX11_digestRest_9 : decode cX11_digestRest 9 = .ok (.invokestatic 346, 3) := by decide +kernel
theorem dX11_digestRest_12 : decode cX11_digestRest 12 = .ok (.lstore_n 3, 1) := by decide +kernel
theorem dX11_digestRest_13 : decode cX11_digestRest 13 = .ok (.lload_n 3, 1) := by decide +kernel
theorem dX11_digestRest_14 : decode cX11_digestRest 14 = .ok (.aload_n 0, 1) := by decide +kernel
theorem dX11_digestRest_15 : decode cX11_digestRest 15 = .ok (.getfield 38, 3) := by decide +kernel
theorem dX11_digestRest_18 : decode cX11_digestRest 18 = .ok (.getfield 207, 3) := by decide +kernel
theorem dX11_digestRest_21 : decode cX11_digestRest 21 = .ok (.i2l, 1) := by decide +kernel
theorem dX11_digestRest_22 : decode cX11_digestRest 22 = .ok (.invokestatic 346, 3) := by decide +kernel
theorem dX11_digestRest_25 : decode cX11_digestRest 25 = .ok (.lstore_n 3, 1) := by decide +kernel
theorem dX11_digestRest_26 : decode cX11_digestRest 26 = .ok (.lload_n 3, 1) := by decide +kernel
theorem dX11_digestRest_27 : decode cX11_digestRest 27 = .ok (.aload_n 0, 1) := by decide +kernel
theorem dX11_digestRest_28 : decode cX11_digestRest 28 = .ok (.invokevirtual 378, 3) := by decide +kernel
theorem dX11_digestRest_31 : decode cX11_digestRest 31 = .ok (.i2l, 1) := by decide +kernel
theorem dX11_digestRest_32 : decode cX11_digestRest 32 = .ok (.invokestatic 346, 3) := by decide +kernel
theorem dX11_digestRest_35 : decode cX11_digestRest 35 = .ok (.lstore_n 3, 1) := by decide +kernel
theorem dX11_digestRest_36 : decode cX11_digestRest 36 = .ok (.lload_n 3, 1) := by decide +kernel
theorem dX11_digestRest_37 : decode cX11_digestRest 37 = .ok (.aload_n 0, 1) := by decide +kernel
theorem dX11_digestRest_38 : decode cX11_digestRest 38 = .ok (.invokevirtual 381, 3) := by decide +kernel
theorem dX11_digestRest_41 : decode cX11_digestRest 41 = .ok (.i2l, 1) := by decide +kernel
theorem dX11_digestRest_42 : decode cX11_digestRest 42 = .ok (.invokestatic 346, 3) := by decide +kernel
theorem dX11_digestRest_45 : decode cX11_digestRest 45 = .ok (.lstore_n 3, 1) := by decide +kernel
theorem dX11_digestRest_46 : decode cX11_digestRest 46 = .ok (.lload_n 3, 1) := by decide +kernel
theorem dX11_digestRest_47 : decode cX11_digestRest 47 = .ok (.aload_n 0, 1) := by decide +kernel
theorem dX11_digestRest_48 : decode cX11_digestRest 48 = .ok (.invokevirtual 384, 3) := by decide +kernel
theorem dX11_digestRest_51 : decode cX11_digestRest 51 = .ok (.i2l, 1) := by decide +kernel
theorem dX11_digestRest_52 : decode cX11_digestRest 52 = .ok (.invokestatic 346, 3) := by decide +kernel
theorem dX11_digestRest_55 : decode cX11_digestRest 55 = .ok (.lstore_n 3, 1) := by decide +kernel
theorem dX11_digestRest_56 : decode cX11_digestRest 56 = .ok (.aload_n 0, 1) := by decide +kernel
theorem dX11_digestRest_57 : decode cX11_digestRest 57 = .ok (.getfield 82, 3) := by decide +kernel
theorem dX11_digestRest_60 : decode cX11_digestRest 60 = .ok (.invokevirtual 252, 3) := by decide +kernel
theorem dX11_digestRest_63 : decode cX11_digestRest 63 = .ok (.lload_n 3, 1) := by decide +kernel
theorem dX11_digestRest_64 : decode cX11_digestRest 64 = .ok (.aload_n 0, 1) := by decide +kernel
theorem dX11_digestRest_65 : decode cX11_digestRest 65 = .ok (.getfield 82, 3) := by decide +kernel
theorem dX11_digestRest_68 : decode cX11_digestRest 68 = .ok (.getfield 255, 3) := by decide +kernel
theorem dX11_digestRest_71 : decode cX11_digestRest 71 = .ok (.i2l, 1) := by decide +kernel
theorem dX11_digestRest_72 : decode cX11_digestRest 72 = .ok (.invokestatic 346, 3) := by decide +kernel
theorem dX11_digestRest_75 : decode cX11_digestRest 75 = .ok (.lstore_n 3, 1) := by decide +kernel
theorem dX11_digestRest_76 : decode cX11_digestRest 76 = .ok (.lload_n 3, 1) := by decide +kernel
theorem dX11_digestRest_77 : decode cX11_digestRest 77 = .ok (.aload_n 0, 1) := by decide +kernel
theorem dX11_digestRest_78 : decode cX11_digestRest 78 = .ok (.getfield 82, 3) := by decide +kernel
theorem dX11_digestRest_81 : decode cX11_digestRest 81 = .ok (.getfield 258, 3) := by decide +kernel
theorem dX11_digestRest_84 : decode cX11_digestRest 84 = .ok (.i2l, 1) := by decide +kernel
theorem dX11_digestRest_85 : decode cX11_digestRest 85 = .ok (.invokestatic 346, 3) := by decide +kernel
theorem dX11_digestRest_88 : decode cX11_digestRest 88 = .ok (.lstore_n 3, 1) := by decide +kernel
theorem dX11_digestRest_89 : decode cX11_digestRest 89 = .ok (.lload_n 3, 1) := by decide +kernel
theorem dX11_digestRest_90 : decode cX11_digestRest 90 = .ok (.aload_n 0, 1) := by decide +kernel
theorem dX11_digestRest_91 : decode cX11_digestRest 91 = .ok (.getfield 91, 3) := by decide +kernel
theorem dX11_digestRest_94 : decode cX11_digestRest 94 = .ok (.invokevirtual 270, 3) := by decide +kernel
theorem dX11_digestRest_97 : decode cX11_digestRest 97 = .ok (.i2l, 1) := by decide +kernel
theorem dX11_digestRest_98 : decode cX11_digestRest 98 = .ok (.invokestatic 346, 3) := by decide +kernel
theorem dX11_digestRest_101 : decode cX11_digestRest 101 = .ok (.lstore_n 3, 1) := by decide +kernel
theorem dX11_digestRest_102 : decode cX11_digestRest 102 = .ok (.lload_n 3, 1) := by decide +kernel
theorem dX11_digestRest_103 : decode cX11_digestRest 103 = .ok (.aload_n 0, 1) := by decide +kernel
theorem dX11_digestRest_104 : decode cX11_digestRest 104 = .ok (.getfield 91, 3) := by decide +kernel
theorem dX11_digestRest_107 : decode cX11_digestRest 107 = .ok (.invokevirtual 280, 3) := by decide +kernel
theorem dX11_digestRest_110 : decode cX11_digestRest 110 = .ok (.i2l, 1) := by decide +kernel
theorem dX11_digestRest_111 : decode cX11_digestRest 111 = .ok (.invokestatic 346, 3) := by decide +kernel
theorem dX11_digestRest_114 : decode cX11_digestRest 114 = .ok (.lstore_n 3, 1) := by decide +kernel
theorem dX11_digestRest_115 : decode cX11_digestRest 115 = .ok (.lload_n 3, 1) := by decide +kernel
theorem dX11_digestRest_116 : decode cX11_digestRest 116 = .ok (.aload_n 0, 1) := by decide +kernel
theorem dX11_digestRest_117 : decode cX11_digestRest 117 = .ok (.getfield 91, 3) := by decide +kernel
theorem dX11_digestRest_120 : decode cX11_digestRest 120 = .ok (.invokevirtual 283, 3) := by decide +kernel
theorem dX11_digestRest_123 : decode cX11_digestRest 123 = .ok (.i2l, 1) := by decide +kernel
theorem dX11_digestRest_124 : decode cX11_digestRest 124 = .ok (.invokestatic 346, 3) := by decide +kernel
theorem dX11_digestRest_127 : decode cX11_digestRest 127 = .ok (.lstore_n 3, 1) := by decide +kernel
theorem dX11_digestRest_128 : decode cX11_digestRest 128 = .ok (.aload_n 0, 1) := by decide +kernel
theorem dX11_digestRest_129 : decode cX11_digestRest 129 = .ok (.getfield 98, 3) := by decide +kernel
theorem dX11_digestRest_132 : decode cX11_digestRest 132 = .ok (.bipush 7, 2) := by decide +kernel
theorem dX11_digestRest_134 : decode cX11_digestRest 134 = .ok (.bipush 6, 2) := by decide +kernel
theorem dX11_digestRest_136 : decode cX11_digestRest 136 = .ok (.invokevirtual 299, 3) := by decide +kernel
theorem dX11_digestRest_139 : decode cX11_digestRest 139 = .ok (.lload_n 3, 1) := by decide +kernel
theorem dX11_digestRest_140 : decode cX11_digestRest 140 = .ok (.aload_n 0, 1) := by decide +kernel
theorem dX11_digestRest_141 : decode cX11_digestRest 141 = .ok (.getfield 98, 3) := by decide +kernel
theorem dX11_digestRest_144 : decode cX11_digestRest 144 = .ok (.getfield 302, 3) := by decide +kernel
theorem dX11_digestRest_147 : decode cX11_digestRest 147 = .ok (.i2l, 1) := by decide +kernel
theorem dX11_digestRest_148 : decode cX11_digestRest 148 = .ok (.invokestatic 346, 3) := by decide +kernel
theorem dX11_digestRest_151 : decode cX11_digestRest 151 = .ok (.lstore_n 3, 1) := by decide +kernel
theorem dX11_digestRest_152 : decode cX11_digestRest 152 = .ok (.lload_n 3, 1) := by decide +kernel
theorem dX11_digestRest_153 : decode cX11_digestRest 153 = .ok (.aload_n 0, 1) := by decide +kernel
theorem dX11_digestRest_154 : decode cX11_digestRest 154 = .ok (.getfield 98, 3) := by decide +kernel
theorem dX11_digestRest_157 : decode cX11_digestRest 157 = .ok (.getfield 305, 3) := by decide +kernel
theorem dX11_digestRest_160 : decode cX11_digestRest 160 = .ok (.i2l, 1) := by decide +kernel
theorem dX11_digestRest_161 : decode cX11_digestRest 161 = .ok (.invokestatic 346, 3) := by decide +kernel
theorem dX11_digestRest_164 : decode cX11_digestRest 164 = .ok (.lreturn, 1) := by decide +kernel
theorem dX11_mixed_0 : decode cX11_mixed 0 = .ok (.ldc2_w 387, 3) := by decide +kernel
theorem dX11_mixed_3 : decode cX11_mixed 3 = .ok (.lload_n 0, 1) := by decide +kernel
theorem dX11_mixed_4 : decode cX11_mixed 4 = .ok (.lmul, 1) := by decide +kernel
theorem dX11_mixed_5 : decode cX11_mixed 5 = .ok (.lload_n 2, 1) := by decide +kernel
theorem dX11_mixed_6 : decode cX11_mixed 6 = .ok (.ladd, 1) := by decide +kernel
theorem dX11_mixed_7 : decode cX11_mixed 7 = .ok (.lreturn, 1) := by decide +kernel
theorem dX11_within_0 : decode cX11_within 0 = .ok (.iload_n 0, 1) := by decide +kernel
theorem dX11_within_1 : decode cX11_within 1 = .ok (.iload_n 1, 1) := by decide +kernel
theorem dX11_within_2 : decode cX11_within 2 = .ok (.if_icmp .lt 12, 3) := by decide +kernel
theorem dX11_within_5 : decode cX11_within 5 = .ok (.iload_n 0, 1) := by decide +kernel
theorem dX11_within_6 : decode cX11_within 6 = .ok (.iload_n 2, 1) := by decide +kernel
theorem dX11_within_7 : decode cX11_within 7 = .ok (.if_icmp .gt 7, 3) := by decide +kernel
theorem dX11_within_10 : decode cX11_within 10 = .ok (.iconst 1, 1) := by decide +kernel
theorem dX11_within_11 : decode cX11_within 11 = .ok (.goto 4, 3) := by decide +kernel
theorem dX11_within_14 : decode cX11_within 14 = .ok (.iconst 0, 1) := by decide +kernel
theorem dX11_within_15 : decode cX11_within 15 = .ok (.ireturn, 1) := by decide +kernel
theorem dX11_mayBlow_0 : decode cX11_mayBlow 0 = .ok (.iload_n 0, 1) := by decide +kernel
theorem dX11_mayBlow_1 : decode cX11_mayBlow 1 = .ok (.iconst 0, 1) := by decide +kernel
theorem dX11_mayBlow_2 : decode cX11_mayBlow 2 = .ok (.bipush 19, 2) := by decide +kernel
theorem dX11_mayBlow_4 : decode cX11_mayBlow 4 = .ok (.invokestatic 102, 3) := by decide +kernel
theorem dX11_mayBlow_7 : decode cX11_mayBlow 7 = .ok (.ifCond .eq 46, 3) := by decide +kernel
theorem dX11_mayBlow_10 : decode cX11_mayBlow 10 = .ok (.iload_n 1, 1) := by decide +kernel
theorem dX11_mayBlow_11 : decode cX11_mayBlow 11 = .ok (.iconst 0, 1) := by decide +kernel
theorem dX11_mayBlow_12 : decode cX11_mayBlow 12 = .ok (.bipush 35, 2) := by decide +kernel
theorem dX11_mayBlow_14 : decode cX11_mayBlow 14 = .ok (.invokestatic 102, 3) := by decide +kernel
theorem dX11_mayBlow_17 : decode cX11_mayBlow 17 = .ok (.ifCond .eq 36, 3) := by decide +kernel
theorem dX11_mayBlow_20 : decode cX11_mayBlow 20 = .ok (.iload_n 2, 1) := by decide +kernel
theorem dX11_mayBlow_21 : decode cX11_mayBlow 21 = .ok (.iconst 0, 1) := by decide +kernel
theorem dX11_mayBlow_22 : decode cX11_mayBlow 22 = .ok (.iconst 3, 1) := by decide +kernel
theorem dX11_mayBlow_23 : decode cX11_mayBlow 23 = .ok (.invokestatic 102, 3) := by decide +kernel
theorem dX11_mayBlow_26 : decode cX11_mayBlow 26 = .ok (.ifCond .eq 27, 3) := by decide +kernel
theorem dX11_mayBlow_29 : decode cX11_mayBlow 29 = .ok (.iload_n 3, 1) := by decide +kernel
theorem dX11_mayBlow_30 : decode cX11_mayBlow 30 = .ok (.iconst 1, 1) := by decide +kernel
theorem dX11_mayBlow_31 : decode cX11_mayBlow 31 = .ok (.bipush 9, 2) := by decide +kernel
theorem dX11_mayBlow_33 : decode cX11_mayBlow 33 = .ok (.invokestatic 102, 3) := by decide +kernel
theorem dX11_mayBlow_36 : decode cX11_mayBlow 36 = .ok (.ifCond .eq 17, 3) := by decide +kernel
theorem dX11_mayBlow_39 : decode cX11_mayBlow 39 = .ok (.iload 4, 2) := by decide +kernel
theorem dX11_mayBlow_41 : decode cX11_mayBlow 41 = .ok (.iconst 0, 1) := by decide +kernel
theorem dX11_mayBlow_42 : decode cX11_mayBlow 42 = .ok (.iconst 3, 1) := by decide +kernel
theorem dX11_mayBlow_43 : decode cX11_mayBlow 43 = .ok (.invokestatic 102, 3) := by decide +kernel
theorem dX11_mayBlow_46 : decode cX11_mayBlow 46 = .ok (.ifCond .eq 7, 3) := by decide +kernel
theorem dX11_mayBlow_49 : decode cX11_mayBlow 49 = .ok (.iconst 1, 1) := by decide +kernel
theorem dX11_mayBlow_50 : decode cX11_mayBlow 50 = .ok (.goto 4, 3) := by decide +kernel
theorem dX11_mayBlow_53 : decode cX11_mayBlow 53 = .ok (.iconst 0, 1) := by decide +kernel
theorem dX11_mayBlow_54 : decode cX11_mayBlow 54 = .ok (.ireturn, 1) := by decide +kernel
theorem dX11_isRing_0 : decode cX11_isRing 0 = .ok (.iload_n 1, 1) := by decide +kernel
theorem dX11_isRing_1 : decode cX11_isRing 1 = .ok (.iconst 0, 1) := by decide +kernel
theorem dX11_isRing_2 : decode cX11_isRing 2 = .ok (.aload_n 0, 1) := by decide +kernel
theorem dX11_isRing_3 : decode cX11_isRing 3 = .ok (.getfield 29, 3) := by decide +kernel
theorem dX11_isRing_6 : decode cX11_isRing 6 = .ok (.getfield 144, 3) := by decide +kernel
theorem dX11_isRing_9 : decode cX11_isRing 9 = .ok (.iconst 1, 1) := by decide +kernel
theorem dX11_isRing_10 : decode cX11_isRing 10 = .ok (.isub, 1) := by decide +kernel
theorem dX11_isRing_11 : decode cX11_isRing 11 = .ok (.invokestatic 102, 3) := by decide +kernel
theorem dX11_isRing_14 : decode cX11_isRing 14 = .ok (.ireturn, 1) := by decide +kernel
theorem dX11_isThing_0 : decode cX11_isThing 0 = .ok (.iload_n 1, 1) := by decide +kernel
theorem dX11_isThing_1 : decode cX11_isThing 1 = .ok (.iconst 0, 1) := by decide +kernel
theorem dX11_isThing_2 : decode cX11_isThing 2 = .ok (.aload_n 0, 1) := by decide +kernel
theorem dX11_isThing_3 : decode cX11_isThing 3 = .ok (.getfield 29, 3) := by decide +kernel
theorem dX11_isThing_6 : decode cX11_isThing 6 = .ok (.getfield 218, 3) := by decide +kernel
theorem dX11_isThing_9 : decode cX11_isThing 9 = .ok (.iconst 1, 1) := by decide +kernel
theorem dX11_isThing_10 : decode cX11_isThing 10 = .ok (.isub, 1) := by decide +kernel
theorem dX11_isThing_11 : decode cX11_isThing 11 = .ok (.invokestatic 102, 3) := by decide +kernel
theorem dX11_isThing_14 : decode cX11_isThing 14 = .ok (.ireturn, 1) := by decide +kernel
theorem dX11_found_0 : decode cX11_found 0 = .ok (.aload_n 0, 1) := by decide +kernel
theorem dX11_found_1 : decode cX11_found 1 = .ok (.iload_n 1, 1) := by decide +kernel
theorem dX11_found_2 : decode cX11_found 2 = .ok (.putfield 62, 3) := by decide +kernel
theorem dX11_found_5 : decode cX11_found 5 = .ok (.bipush (-10), 2) := by decide +kernel
theorem dX11_found_7 : decode cX11_found 7 = .ok (.iload_n 1, 1) := by decide +kernel
theorem dX11_found_8 : decode cX11_found 8 = .ok (.isub, 1) := by decide +kernel
theorem dX11_found_9 : decode cX11_found 9 = .ok (.ireturn, 1) := by decide +kernel
theorem dX11_reread_0 : decode cX11_reread 0 = .ok (.iload_n 1, 1) := by decide +kernel
theorem dX11_reread_1 : decode cX11_reread 1 = .ok (.ifCond .ne 25, 3) := by decide +kernel
theorem dX11_reread_4 : decode cX11_reread 4 = .ok (.aload_n 0, 1) := by decide +kernel
theorem dX11_reread_5 : decode cX11_reread 5 = .ok (.getfield 15, 3) := by decide +kernel
theorem dX11_reread_8 : decode cX11_reread 8 = .ok (.iload_n 1, 1) := by decide +kernel
theorem dX11_reread_9 : decode cX11_reread 9 = .ok (.aload_n 0, 1) := by decide +kernel
theorem dX11_reread_10 : decode cX11_reread 10 = .ok (.getfield 22, 3) := by decide +kernel
theorem dX11_reread_13 : decode cX11_reread 13 = .ok (.aload_n 0, 1) := by decide +kernel
theorem dX11_reread_14 : decode cX11_reread 14 = .ok (.getfield 11, 3) := by decide +kernel
theorem dX11_reread_17 : decode cX11_reread 17 = .ok (.iload_n 1, 1) := by decide +kernel
theorem dX11_reread_18 : decode cX11_reread 18 = .ok (.aaload, 1) := by decide +kernel
theorem dX11_reread_19 : decode cX11_reread 19 = .ok (.invokevirtual 389, 3) := by decide +kernel
theorem dX11_reread_22 : decode cX11_reread 22 = .ok (.iastore, 1) := by decide +kernel
theorem dX11_reread_23 : decode cX11_reread 23 = .ok (.goto 49, 3) := by decide +kernel
theorem dX11_reread_26 : decode cX11_reread 26 = .ok (.iload_n 1, 1) := by decide +kernel
theorem dX11_reread_27 : decode cX11_reread 27 = .ok (.iconst 1, 1) := by decide +kernel
theorem dX11_reread_28 : decode cX11_reread 28 = .ok (.if_icmp .ne 25, 3) := by decide +kernel
theorem dX11_reread_31 : decode cX11_reread 31 = .ok (.aload_n 0, 1) := by decide +kernel
theorem dX11_reread_32 : decode cX11_reread 32 = .ok (.getfield 15, 3) := by decide +kernel
theorem dX11_reread_35 : decode cX11_reread 35 = .ok (.iload_n 1, 1) := by decide +kernel
theorem dX11_reread_36 : decode cX11_reread 36 = .ok (.aload_n 0, 1) := by decide +kernel
theorem dX11_reread_37 : decode cX11_reread 37 = .ok (.getfield 29, 3) := by decide +kernel
theorem dX11_reread_40 : decode cX11_reread 40 = .ok (.aload_n 0, 1) := by decide +kernel
theorem dX11_reread_41 : decode cX11_reread 41 = .ok (.getfield 11, 3) := by decide +kernel
theorem dX11_reread_44 : decode cX11_reread 44 = .ok (.iload_n 1, 1) := by decide +kernel
theorem dX11_reread_45 : decode cX11_reread 45 = .ok (.aaload, 1) := by decide +kernel
theorem dX11_reread_46 : decode cX11_reread 46 = .ok (.invokevirtual 392, 3) := by decide +kernel
theorem dX11_reread_49 : decode cX11_reread 49 = .ok (.iastore, 1) := by decide +kernel
theorem dX11_reread_50 : decode cX11_reread 50 = .ok (.goto 22, 3) := by decide +kernel
theorem dX11_reread_53 : decode cX11_reread 53 = .ok (.aload_n 0, 1) := by decide +kernel
theorem dX11_reread_54 : decode cX11_reread 54 = .ok (.getfield 15, 3) := by decide +kernel
theorem dX11_reread_57 : decode cX11_reread 57 = .ok (.iload_n 1, 1) := by decide +kernel
theorem dX11_reread_58 : decode cX11_reread 58 = .ok (.aload_n 0, 1) := by decide +kernel
theorem dX11_reread_59 : decode cX11_reread 59 = .ok (.getfield 29, 3) := by decide +kernel
theorem dX11_reread_62 : decode cX11_reread 62 = .ok (.aload_n 0, 1) := by decide +kernel
theorem dX11_reread_63 : decode cX11_reread 63 = .ok (.getfield 11, 3) := by decide +kernel
theorem dX11_reread_66 : decode cX11_reread 66 = .ok (.iload_n 1, 1) := by decide +kernel
theorem dX11_reread_67 : decode cX11_reread 67 = .ok (.aaload, 1) := by decide +kernel
theorem dX11_reread_68 : decode cX11_reread 68 = .ok (.invokevirtual 395, 3) := by decide +kernel
theorem dX11_reread_71 : decode cX11_reread 71 = .ok (.iastore, 1) := by decide +kernel
theorem dX11_reread_72 : decode cX11_reread 72 = .ok (.aload_n 0, 1) := by decide +kernel
theorem dX11_reread_73 : decode cX11_reread 73 = .ok (.iconst 0, 1) := by decide +kernel
theorem dX11_reread_74 : decode cX11_reread 74 = .ok (.putfield 66, 3) := by decide +kernel
theorem dX11_reread_77 : decode cX11_reread 77 = .ok (.return_, 1) := by decide +kernel
theorem dX11_playTold_0 : decode cX11_playTold 0 = .ok (.aload_n 0, 1) := by decide +kernel
theorem dX11_playTold_1 : decode cX11_playTold 1 = .ok (.getfield 66, 3) := by decide +kernel
theorem dX11_playTold_4 : decode cX11_playTold 4 = .ok (.ifCond .eq 4, 3) := by decide +kernel
theorem dX11_playTold_7 : decode cX11_playTold 7 = .ok (.return_, 1) := by decide +kernel
theorem dX11_playTold_8 : decode cX11_playTold 8 = .ok (.aload_n 0, 1) := by decide +kernel
theorem dX11_playTold_9 : decode cX11_playTold 9 = .ok (.getfield 38, 3) := by decide +kernel
theorem dX11_playTold_12 : decode cX11_playTold 12 = .ok (.aload_n 0, 1) := by decide +kernel
theorem dX11_playTold_13 : decode cX11_playTold 13 = .ok (.getfield 29, 3) := by decide +kernel
theorem dX11_playTold_16 : decode cX11_playTold 16 = .ok (.invokevirtual 398, 3) := by decide +kernel
theorem dX11_playTold_19 : decode cX11_playTold 19 = .ok (.iconst 0, 1) := by decide +kernel
theorem dX11_playTold_20 : decode cX11_playTold 20 = .ok (.istore_n 1, 1) := by decide +kernel
theorem dX11_playTold_21 : decode cX11_playTold 21 = .ok (.iload_n 1, 1) := by decide +kernel
theorem dX11_playTold_22 : decode cX11_playTold 22 = .ok (.bipush 20, 2) := by decide +kernel
theorem dX11_playTold_24 : decode cX11_playTold 24 = .ok (.if_icmp .ge 33, 3) := by decide +kernel
theorem dX11_playTold_27 : decode cX11_playTold 27 = .ok (.aload_n 0, 1) := by decide +kernel
theorem dX11_playTold_28 : decode cX11_playTold 28 = .ok (.getfield 38, 3) := by decide +kernel
theorem dX11_playTold_31 : decode cX11_playTold 31 = .ok (.aload_n 0, 1) := by decide +kernel
theorem dX11_playTold_32 : decode cX11_playTold 32 = .ok (.getfield 29, 3) := by decide +kernel
theorem dX11_playTold_35 : decode cX11_playTold 35 = .ok (.iload_n 1, 1) := by decide +kernel
theorem dX11_playTold_36 : decode cX11_playTold 36 = .ok (.invokevirtual 402, 3) := by decide +kernel
theorem dX11_playTold_39 : decode cX11_playTold 39 = .ok (.aload_n 0, 1) := by decide +kernel
theorem dX11_playTold_40 : decode cX11_playTold 40 = .ok (.getfield 45, 3) := by decide +kernel
theorem dX11_playTold_43 : decode cX11_playTold 43 = .ok (.iload_n 1, 1) := by decide +kernel
theorem dX11_playTold_44 : decode cX11_playTold 44 = .ok (.aload_n 0, 1) := by decide +kernel
theorem dX11_playTold_45 : decode cX11_playTold 45 = .ok (.getfield 38, 3) := by decide +kernel
theorem dX11_playTold_48 : decode cX11_playTold 48 = .ok (.invokevirtual 406, 3) := by decide +kernel
theorem dX11_playTold_51 : decode cX11_playTold 51 = .ok (.iinc 1 1, 3) := by decide +kernel
theorem dX11_playTold_54 : decode cX11_playTold 54 = .ok (.goto (-33), 3) := by decide +kernel
theorem dX11_playTold_57 : decode cX11_playTold 57 = .ok (.aload_n 0, 1) := by decide +kernel
theorem dX11_playTold_58 : decode cX11_playTold 58 = .ok (.iconst 1, 1) := by decide +kernel
theorem dX11_playTold_59 : decode cX11_playTold 59 = .ok (.putfield 66, 3) := by decide +kernel
theorem dX11_playTold_62 : decode cX11_playTold 62 = .ok (.return_, 1) := by decide +kernel
