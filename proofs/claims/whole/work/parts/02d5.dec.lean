theorem dX9_seeds_37 : decode cX9_seeds 37 = .ok (.iastore, 1) := by decide +kernel
theorem dX9_seeds_38 : decode cX9_seeds 38 = .ok (.iconst 1, 1) := by decide +kernel
theorem dX9_seeds_39 : decode cX9_seeds 39 = .ok (.ireturn, 1) := by decide +kernel
theorem dX9_number_0 : decode cX9_number 0 = .ok (.aload_n 0, 1) := by decide +kernel
theorem dX9_number_1 : decode cX9_number 1 = .ok (.ldc 126, 2) := by decide +kernel
theorem dX9_number_3 : decode cX9_number 3 = .ok (.aload_n 0, 1) := by decide +kernel
theorem dX9_number_4 : decode cX9_number 4 = .ok (.getfield 127, 3) := by decide +kernel
theorem dX9_number_7 : decode cX9_number 7 = .ok (.imul, 1) := by decide +kernel
theorem dX9_number_8 : decode cX9_number 8 = .ok (.sipush 12345, 3) := by decide +kernel
theorem dX9_number_11 : decode cX9_number 11 = .ok (.iadd, 1) := by decide +kernel
theorem dX9_number_12 : decode cX9_number 12 = .ok (.putfield 127, 3) := by decide +kernel
theorem dX9_number_15 : decode cX9_number 15 = .ok (.aload_n 0, 1) := by decide +kernel
theorem dX9_number_16 : decode cX9_number 16 = .ok (.getfield 127, 3) := by decide +kernel
theorem dX9_number_19 : decode cX9_number 19 = .ok (.bipush 16, 2) := by decide +kernel
theorem dX9_number_21 : decode cX9_number 21 = .ok (.iushr, 1) := by decide +kernel
theorem dX9_number_22 : decode cX9_number 22 = .ok (.iload_n 1, 1) := by decide +kernel
theorem dX9_number_23 : decode cX9_number 23 = .ok (.irem, 1) := by decide +kernel
theorem dX9_number_24 : decode cX9_number 24 = .ok (.ireturn, 1) := by decide +kernel
theorem dX9_at_0 : decode cX9_at 0 = .ok (.aload_n 0, 1) := by decide +kernel
theorem dX9_at_1 : decode cX9_at 1 = .ok (.getfield 32, 3) := by decide +kernel
theorem dX9_at_4 : decode cX9_at 4 = .ok (.bipush 16, 2) := by decide +kernel
theorem dX9_at_6 : decode cX9_at 6 = .ok (.iload_n 1, 1) := by decide +kernel
theorem dX9_at_7 : decode cX9_at 7 = .ok (.imul, 1) := by decide +kernel
theorem dX9_at_8 : decode cX9_at 8 = .ok (.iload_n 2, 1) := by decide +kernel
theorem dX9_at_9 : decode cX9_at 9 = .ok (.iadd, 1) := by decide +kernel
theorem dX9_at_10 : decode cX9_at 10 = .ok (.iaload, 1) := by decide +kernel
theorem dX9_at_11 : decode cX9_at 11 = .ok (.ireturn, 1) := by decide +kernel
theorem dX9_put_0 : decode cX9_put 0 = .ok (.aload_n 0, 1) := by decide +kernel
theorem dX9_put_1 : decode cX9_put 1 = .ok (.getfield 32, 3) := by decide +kernel
theorem dX9_put_4 : decode cX9_put 4 = .ok (.bipush 16, 2) := by decide +kernel
theorem dX9_put_6 : decode cX9_put 6 = .ok (.iload_n 1, 1) := by decide +kernel
theorem dX9_put_7 : decode cX9_put 7 = .ok (.imul, 1) := by decide +kernel
theorem dX9_put_8 : decode cX9_put 8 = .ok (.iload_n 2, 1) := by decide +kernel
theorem dX9_put_9 : decode cX9_put 9 = .ok (.iadd, 1) := by decide +kernel
theorem dX9_put_10 : decode cX9_put 10 = .ok (.iload_n 3, 1) := by decide +kernel
theorem dX9_put_11 : decode cX9_put 11 = .ok (.iastore, 1) := by decide +kernel
theorem dX9_put_12 : decode cX9_put 12 = .ok (.return_, 1) := by decide +kernel
theorem dX9_isSeed_0 : decode cX9_isSeed 0 = .ok (.iconst 0, 1) := by decide +kernel
theorem dX9_isSeed_1 : decode cX9_isSeed 1 = .ok (.istore_n 3, 1) := by decide +kernel
theorem dX9_isSeed_2 : decode cX9_isSeed 2 = .ok (.iconst 0, 1) := by decide +kernel
theorem dX9_isSeed_3 : decode cX9_isSeed 3 = .ok (.istore 4, 2) := by decide +kernel
theorem dX9_isSeed_5 : decode cX9_isSeed 5 = .ok (.iload 4, 2) := by decide +kernel
theorem dX9_isSeed_7 : decode cX9_isSeed 7 = .ok (.aload_n 0, 1) := by decide +kernel
theorem dX9_isSeed_8 : decode cX9_isSeed 8 = .ok (.getfield 25, 3) := by decide +kernel
theorem dX9_isSeed_11 : decode cX9_isSeed 11 = .ok (.iload_n 1, 1) := by decide +kernel
theorem dX9_isSeed_12 : decode cX9_isSeed 12 = .ok (.iaload, 1) := by decide +kernel
theorem dX9_isSeed_13 : decode cX9_isSeed 13 = .ok (.if_icmp .ge 35, 3) := by decide +kernel
theorem dX9_isSeed_16 : decode cX9_isSeed 16 = .ok (.iload_n 3, 1) := by decide +kernel
theorem dX9_isSeed_17 : decode cX9_isSeed 17 = .ok (.ifCond .ne 19, 3) := by decide +kernel
theorem dX9_isSeed_20 : decode cX9_isSeed 20 = .ok (.aload_n 0, 1) := by decide +kernel
theorem dX9_isSeed_21 : decode cX9_isSeed 21 = .ok (.getfield 22, 3) := by decide +kernel
theorem dX9_isSeed_24 : decode cX9_isSeed 24 = .ok (.bipush 16, 2) := by decide +kernel
theorem dX9_isSeed_26 : decode cX9_isSeed 26 = .ok (.iload_n 1, 1) := by decide +kernel
theorem dX9_isSeed_27 : decode cX9_isSeed 27 = .ok (.imul, 1) := by decide +kernel
theorem dX9_isSeed_28 : decode cX9_isSeed 28 = .ok (.iload 4, 2) := by decide +kernel
theorem dX9_isSeed_30 : decode cX9_isSeed 30 = .ok (.iadd, 1) := by decide +kernel
theorem dX9_isSeed_31 : decode cX9_isSeed 31 = .ok (.iaload, 1) := by decide +kernel
theorem dX9_isSeed_32 : decode cX9_isSeed 32 = .ok (.iload_n 2, 1) := by decide +kernel
theorem dX9_isSeed_33 : decode cX9_isSeed 33 = .ok (.if_icmp .ne 7, 3) := by decide +kernel
theorem dX9_isSeed_36 : decode cX9_isSeed 36 = .ok (.iconst 1, 1) := by decide +kernel
theorem dX9_isSeed_37 : decode cX9_isSeed 37 = .ok (.goto 4, 3) := by decide +kernel
theorem dX9_isSeed_40 : decode cX9_isSeed 40 = .ok (.iconst 0, 1) := by decide +kernel
theorem dX9_isSeed_41 : decode cX9_isSeed 41 = .ok (.istore_n 3, 1) := by decide +kernel
theorem dX9_isSeed_42 : decode cX9_isSeed 42 = .ok (.iinc 4 1, 3) := by decide +kernel
theorem dX9_isSeed_45 : decode cX9_isSeed 45 = .ok (.goto (-40), 3) := by decide +kernel
theorem dX9_isSeed_48 : decode cX9_isSeed 48 = .ok (.iload_n 3, 1) := by decide +kernel
theorem dX9_isSeed_49 : decode cX9_isSeed 49 = .ok (.ireturn, 1) := by decide +kernel
theorem dX9_lay_0 : decode cX9_lay 0 = .ok (.aload_n 0, 1) := by decide +kernel
theorem dX9_lay_1 : decode cX9_lay 1 = .ok (.iload_n 1, 1) := by decide +kernel
theorem dX9_lay_2 : decode cX9_lay 2 = .ok (.invokevirtual 123, 3) := by decide +kernel
theorem dX9_lay_5 : decode cX9_lay 5 = .ok (.ifCond .ne 5, 3) := by decide +kernel
theorem dX9_lay_8 : decode cX9_lay 8 = .ok (.iconst (-1), 1) := by decide +kernel
theorem dX9_lay_9 : decode cX9_lay 9 = .ok (.ireturn, 1) := by decide +kernel
theorem dX9_lay_10 : decode cX9_lay 10 = .ok (.aload_n 0, 1) := by decide +kernel
theorem dX9_lay_11 : decode cX9_lay 11 = .ok (.getfield 28, 3) := by decide +kernel
theorem dX9_lay_14 : decode cX9_lay 14 = .ok (.iload_n 1, 1) := by decide +kernel
theorem dX9_lay_15 : decode cX9_lay 15 = .ok (.baload, 1) := by decide +kernel
theorem dX9_lay_16 : decode cX9_lay 16 = .ok (.ifCond .eq 6, 3) := by decide +kernel
theorem dX9_lay_19 : decode cX9_lay 19 = .ok (.bipush (-4), 2) := by decide +kernel
theorem dX9_lay_21 : decode cX9_lay 21 = .ok (.ireturn, 1) := by decide +kernel
theorem dX9_lay_22 : decode cX9_lay 22 = .ok (.aload_n 0, 1) := by decide +kernel
theorem dX9_lay_23 : decode cX9_lay 23 = .ok (.getfield 13, 3) := by decide +kernel
theorem dX9_lay_26 : decode cX9_lay 26 = .ok (.iload_n 1, 1) := by decide +kernel
theorem dX9_lay_27 : decode cX9_lay 27 = .ok (.iaload, 1) := by decide +kernel
theorem dX9_lay_28 : decode cX9_lay 28 = .ok (.istore_n 3, 1) := by decide +kernel
theorem dX9_lay_29 : decode cX9_lay 29 = .ok (.aload_n 0, 1) := by decide +kernel
theorem dX9_lay_30 : decode cX9_lay 30 = .ok (.getfield 19, 3) := by decide +kernel
theorem dX9_lay_33 : decode cX9_lay 33 = .ok (.iload_n 1, 1) := by decide +kernel
theorem dX9_lay_34 : decode cX9_lay 34 = .ok (.iaload, 1) := by decide +kernel
theorem dX9_lay_35 : decode cX9_lay 35 = .ok (.iload_n 3, 1) := by decide +kernel
theorem dX9_lay_36 : decode cX9_lay 36 = .ok (.iconst 2, 1) := by decide +kernel
theorem dX9_lay_37 : decode cX9_lay 37 = .ok (.idiv, 1) := by decide +kernel
theorem dX9_lay_38 : decode cX9_lay 38 = .ok (.iconst 1, 1) := by decide +kernel
theorem dX9_lay_39 : decode cX9_lay 39 = .ok (.iadd, 1) := by decide +kernel
theorem dX9_lay_40 : decode cX9_lay 40 = .ok (.if_icmp .lt 18, 3) := by decide +kernel
theorem dX9_lay_43 : decode cX9_lay 43 = .ok (.aload_n 0, 1) := by decide +kernel
theorem dX9_lay_44 : decode cX9_lay 44 = .ok (.getfield 19, 3) := by decide +kernel
theorem dX9_lay_47 : decode cX9_lay 47 = .ok (.iload_n 1, 1) := by decide +kernel
theorem dX9_lay_48 : decode cX9_lay 48 = .ok (.iaload, 1) := by decide +kernel
theorem dX9_lay_49 : decode cX9_lay 49 = .ok (.aload_n 0, 1) := by decide +kernel
theorem dX9_lay_50 : decode cX9_lay 50 = .ok (.getfield 25, 3) := by decide +kernel
theorem dX9_lay_53 : decode cX9_lay 53 = .ok (.iload_n 1, 1) := by decide +kernel
theorem dX9_lay_54 : decode cX9_lay 54 = .ok (.iaload, 1) := by decide +kernel
theorem dX9_lay_55 : decode cX9_lay 55 = .ok (.if_icmp .ge 6, 3) := by decide +kernel
theorem dX9_lay_58 : decode cX9_lay 58 = .ok (.bipush (-5), 2) := by decide +kernel
theorem dX9_lay_60 : decode cX9_lay 60 = .ok (.ireturn, 1) := by decide +kernel
theorem dX9_lay_61 : decode cX9_lay 61 = .ok (.aload_n 0, 1) := by decide +kernel
theorem dX9_lay_62 : decode cX9_lay 62 = .ok (.iload_n 2, 1) := by decide +kernel
theorem dX9_lay_63 : decode cX9_lay 63 = .ok (.putfield 127, 3) := by decide +kernel
theorem dX9_lay_66 : decode cX9_lay 66 = .ok (.iconst 0, 1) := by decide +kernel
theorem dX9_lay_67 : decode cX9_lay 67 = .ok (.istore 4, 2) := by decide +kernel
theorem dX9_lay_69 : decode cX9_lay 69 = .ok (.iload 4, 2) := by decide +kernel
theorem dX9_lay_71 : decode cX9_lay 71 = .ok (.iload_n 3, 1) := by decide +kernel
theorem dX9_lay_72 : decode cX9_lay 72 = .ok (.if_icmp .ge 18, 3) := by decide +kernel
theorem dX9_lay_75 : decode cX9_lay 75 = .ok (.aload_n 0, 1) := by decide +kernel
theorem dX9_lay_76 : decode cX9_lay 76 = .ok (.iload_n 1, 1) := by decide +kernel
theorem dX9_lay_77 : decode cX9_lay 77 = .ok (.iload 4, 2) := by decide +kernel
theorem dX9_lay_79 : decode cX9_lay 79 = .ok (.bipush (-2), 2) := by decide +kernel
theorem dX9_lay_81 : decode cX9_lay 81 = .ok (.invokevirtual 131, 3) := by decide +kernel
theorem dX9_lay_84 : decode cX9_lay 84 = .ok (.iinc 4 1, 3) := by decide +kernel
theorem dX9_lay_87 : decode cX9_lay 87 = .ok (.goto (-18), 3) := by decide +kernel
theorem dX9_lay_90 : decode cX9_lay 90 = .ok (.aload_n 0, 1) := by decide +kernel
theorem dX9_lay_91 : decode cX9_lay 91 = .ok (.iconst 2, 1) := by decide +kernel
theorem dX9_lay_92 : decode cX9_lay 92 = .ok (.invokevirtual 135, 3) := by decide +kernel
theorem dX9_lay_95 : decode cX9_lay 95 = .ok (.ifCond .eq 7, 3) := by decide +kernel
theorem dX9_lay_98 : decode cX9_lay 98 = .ok (.iconst 1, 1) := by decide +kernel
theorem dX9_lay_99 : decode cX9_lay 99 = .ok (.goto 4, 3) := by decide +kernel
theorem dX9_lay_102 : decode cX9_lay 102 = .ok (.iconst 0, 1) := by decide +kernel
theorem dX9_lay_103 : decode cX9_lay 103 = .ok (.istore 4, 2) := by decide +kernel
theorem dX9_lay_105 : decode cX9_lay 105 = .ok (.iconst 0, 1) := by decide +kernel
theorem dX9_lay_106 : decode cX9_lay 106 = .ok (.istore 5, 2) := by decide +kernel
theorem dX9_lay_108 : decode cX9_lay 108 = .ok (.iload 5, 2) := by decide +kernel
theorem dX9_lay_110 : decode cX9_lay 110 = .ok (.aload_n 0, 1) := by decide +kernel
theorem dX9_lay_111 : decode cX9_lay 111 = .ok (.getfield 25, 3) := by decide +kernel
theorem dX9_lay_114 : decode cX9_lay 114 = .ok (.iload_n 1, 1) := by decide +kernel
theorem dX9_lay_115 : decode cX9_lay 115 = .ok (.iaload, 1) := by decide +kernel
theorem dX9_lay_116 : decode cX9_lay 116 = .ok (.if_icmp .ge 34, 3) := by decide +kernel
theorem dX9_lay_119 : decode cX9_lay 119 = .ok (.aload_n 0, 1) := by decide +kernel
theorem dX9_lay_120 : decode cX9_lay 120 = .ok (.iload_n 1, 1) := by decide +kernel
theorem dX9_lay_121 : decode cX9_lay 121 = .ok (.iload_n 3, 1) := by decide +kernel
theorem dX9_lay_122 : decode cX9_lay 122 = .ok (.iload 5, 2) := by decide +kernel
theorem dX9_lay_124 : decode cX9_lay 124 = .ok (.iload 4, 2) := by decide +kernel
theorem dX9_lay_126 : decode cX9_lay 126 = .ok (.invokestatic 139, 3) := by decide +kernel
theorem dX9_lay_129 : decode cX9_lay 129 = .ok (.aload_n 0, 1) := by decide +kernel
theorem dX9_lay_130 : decode cX9_lay 130 = .ok (.getfield 22, 3) := by decide +kernel
theorem dX9_lay_133 : decode cX9_lay 133 = .ok (.bipush 16, 2) := by decide +kernel
theorem dX9_lay_135 : decode cX9_lay 135 = .ok (.iload_n 1, 1) := by decide +kernel
theorem dX9_lay_136 : decode cX9_lay 136 = .ok (.imul, 1) := by decide +kernel
theorem dX9_lay_137 : decode cX9_lay 137 = .ok (.iload 5, 2) := by decide +kernel
theorem dX9_lay_139 : decode cX9_lay 139 = .ok (.iadd, 1) := by decide +kernel
theorem dX9_lay_140 : decode cX9_lay 140 = .ok (.iaload, 1) := by decide +kernel
theorem dX9_lay_141 : decode cX9_lay 141 = .ok (.invokevirtual 131, 3) := by decide +kernel
theorem dX9_lay_144 : decode cX9_lay 144 = .ok (.iinc 5 1, 3) := by decide +kernel
theorem dX9_lay_147 : decode cX9_lay 147 = .ok (.goto (-39), 3) := by decide +kernel
theorem dX9_lay_150 : decode cX9_lay 150 = .ok (.iload_n 3, 1) := by decide +kernel
theorem dX9_lay_151 : decode cX9_lay 151 = .ok (.aload_n 0, 1) := by decide +kernel
theorem dX9_lay_152 : decode cX9_lay 152 = .ok (.getfield 19, 3) := by decide +kernel
theorem dX9_lay_155 : decode cX9_lay 155 = .ok (.iload_n 1, 1) := by decide +kernel
theorem dX9_lay_156 : decode cX9_lay 156 = .ok (.iaload, 1) := by decide +kernel
theorem dX9_lay_157 : decode cX9_lay 157 = .ok (.isub, 1) := by decide +kernel
theorem dX9_lay_158 : decode cX9_lay 158 = .ok (.istore 5, 2) := by decide +kernel
theorem dX9_lay_160 : decode cX9_lay 160 = .ok (.iload 5, 2) := by decide +kernel
theorem dX9_lay_162 : decode cX9_lay 162 = .ok (.istore 6, 2) := by decide +kernel
theorem dX9_lay_164 : decode cX9_lay 164 = .ok (.iconst 0, 1) := by decide +kernel
theorem dX9_lay_165 : decode cX9_lay 165 = .ok (.istore 7, 2) := by decide +kernel
theorem dX9_lay_167 : decode cX9_lay 167 = .ok (.iload 7, 2) := by decide +kernel
theorem dX9_lay_169 : decode cX9_lay 169 = .ok (.aload_n 0, 1) := by decide +kernel
theorem dX9_lay_170 : decode cX9_lay 170 = .ok (.getfield 25, 3) := by decide +kernel
theorem dX9_lay_173 : decode cX9_lay 173 = .ok (.iload_n 1, 1) := by decide +kernel
theorem dX9_lay_174 : decode cX9_lay 174 = .ok (.iaload, 1) := by decide +kernel
theorem dX9_lay_175 : decode cX9_lay 175 = .ok (.if_icmp .ge 52, 3) := by decide +kernel
theorem dX9_lay_178 : decode cX9_lay 178 = .ok (.iload 6, 2) := by decide +kernel
theorem dX9_lay_180 : decode cX9_lay 180 = .ok (.ifCond .le 47, 3) := by decide +kernel
theorem dX9_lay_183 : decode cX9_lay 183 = .ok (.iload_n 3, 1) := by decide +kernel
theorem dX9_lay_184 : decode cX9_lay 184 = .ok (.iload 7, 2) := by decide +kernel
theorem dX9_lay_186 : decode cX9_lay 186 = .ok (.iload 4, 2) := by decide +kernel
theorem dX9_lay_188 : decode cX9_lay 188 = .ok (.invokestatic 139, 3) := by decide +kernel
theorem dX9_lay_191 : decode cX9_lay 191 = .ok (.iconst 1, 1) := by decide +kernel
theorem dX9_lay_192 : decode cX9_lay 192 = .ok (.ixor, 1) := by decide +kernel
theorem dX9_lay_193 : decode cX9_lay 193 = .ok (.istore 8, 2) := by decide +kernel
theorem dX9_lay_195 : decode cX9_lay 195 = .ok (.aload_n 0, 1) := by decide +kernel
theorem dX9_lay_196 : decode cX9_lay 196 = .ok (.iload_n 1, 1) := by decide +kernel
theorem dX9_lay_197 : decode cX9_lay 197 = .ok (.iload 8, 2) := by decide +kernel
theorem dX9_lay_199 : decode cX9_lay 199 = .ok (.invokevirtual 143, 3) := by decide +kernel
theorem dX9_lay_202 : decode cX9_lay 202 = .ok (.bipush (-2), 2) := by decide +kernel
theorem dX9_lay_204 : decode cX9_lay 204 = .ok (.if_icmp .eq 6, 3) := by decide +kernel
theorem dX9_lay_207 : decode cX9_lay 207 = .ok (.goto 14, 3) := by decide +kernel
theorem dX9_lay_210 : decode cX9_lay 210 = .ok (.aload_n 0, 1) := by decide +kernel
theorem dX9_lay_211 : decode cX9_lay 211 = .ok (.iload_n 1, 1) := by decide +kernel
theorem dX9_lay_212 : decode cX9_lay 212 = .ok (.iload 8, 2) := by decide +kernel
theorem dX9_lay_214 : decode cX9_lay 214 = .ok (.iconst (-1), 1) := by decide +kernel
theorem dX9_lay_215 : decode cX9_lay 215 = .ok (.invokevirtual 131, 3) := by decide +kernel
theorem dX9_lay_218 : decode cX9_lay 218 = .ok (.iinc 6 (-1), 3) := by decide +kernel
theorem dX9_lay_221 : decode cX9_lay 221 = .ok (.iinc 7 1, 3) := by decide +kernel
theorem dX9_lay_224 : decode cX9_lay 224 = .ok (.goto (-57), 3) := by decide +kernel
theorem dX9_lay_227 : decode cX9_lay 227 = .ok (.iconst 0, 1) := by decide +kernel
theorem dX9_lay_228 : decode cX9_lay 228 = .ok (.istore 7, 2) := by decide +kernel
theorem dX9_lay_230 : decode cX9_lay 230 = .ok (.iload 7, 2) := by decide +kernel
theorem dX9_lay_232 : decode cX9_lay 232 = .ok (.iload_n 3, 1) := by decide +kernel
theorem dX9_lay_233 : decode cX9_lay 233 = .ok (.iconst 2, 1) := by decide +kernel
theorem dX9_lay_234 : decode cX9_lay 234 = .ok (.idiv, 1) := by decide +kernel
theorem dX9_lay_235 : decode cX9_lay 235 = .ok (.if_icmp .ge 62, 3) := by decide +kernel
theorem dX9_lay_238 : decode cX9_lay 238 = .ok (.iload 6, 2) := by decide +kernel
theorem dX9_lay_240 : decode cX9_lay 240 = .ok (.ifCond .le 57, 3) := by decide +kernel
theorem dX9_lay_243 : decode cX9_lay 243 = .ok (.aload_n 0, 1) := by decide +kernel
theorem dX9_lay_244 : decode cX9_lay 244 = .ok (.iload_n 1, 1) := by decide +kernel
theorem dX9_lay_245 : decode cX9_lay 245 = .ok (.iconst 2, 1) := by decide +kernel
theorem dX9_lay_246 : decode cX9_lay 246 = .ok (.iload 7, 2) := by decide +kernel
theorem dX9_lay_248 : decode cX9_lay 248 = .ok (.imul, 1) := by decide +kernel
theorem dX9_lay_249 : decode cX9_lay 249 = .ok (.invokevirtual 143, 3) := by decide +kernel
theorem dX9_lay_252 : decode cX9_lay 252 = .ok (.bipush (-2), 2) := by decide +kernel
theorem dX9_lay_254 : decode cX9_lay 254 = .ok (.if_icmp .ne 37, 3) := by decide +kernel
theorem dX9_lay_257 : decode cX9_lay 257 = .ok (.aload_n 0, 1) := by decide +kernel
theorem dX9_lay_258 : decode cX9_lay 258 = .ok (.iload_n 1, 1) := by decide +kernel
theorem dX9_lay_259 : decode cX9_lay 259 = .ok (.iconst 2, 1) := by decide +kernel
theorem dX9_lay_260 : decode cX9_lay 260 = .ok (.iload 7, 2) := by decide +kernel
theorem dX9_lay_262 : decode cX9_lay 262 = .ok (.imul, 1) := by decide +kernel
theorem dX9_lay_263 : decode cX9_lay 263 = .ok (.iconst 1, 1) := by decide +kernel
theorem dX9_lay_264 : decode cX9_lay 264 = .ok (.iadd, 1) := by decide +kernel
theorem dX9_lay_265 : decode cX9_lay 265 = .ok (.invokevirtual 143, 3) := by decide +kernel
theorem dX9_lay_268 : decode cX9_lay 268 = .ok (.bipush (-2), 2) := by decide +kernel
theorem dX9_lay_270 : decode cX9_lay 270 = .ok (.if_icmp .eq 6, 3) := by decide +kernel
theorem dX9_lay_273 : decode cX9_lay 273 = .ok (.goto 18, 3) := by decide +kernel
theorem dX9_lay_276 : decode cX9_lay 276 = .ok (.aload_n 0, 1) := by decide +kernel
theorem dX9_lay_277 : decode cX9_lay 277 = .ok (.iload_n 1, 1) := by decide +kernel
theorem dX9_lay_278 : decode cX9_lay 278 = .ok (.iconst 2, 1) := by decide +kernel
theorem dX9_lay_279 : decode cX9_lay 279 = .ok (.iload 7, 2) := by decide +kernel
theorem dX9_lay_281 : decode cX9_lay 281 = .ok (.imul, 1) := by decide +kernel
theorem dX9_lay_282 : decode cX9_lay 282 = .ok (.iconst 1, 1) := by decide +kernel
theorem dX9_lay_283 : decode cX9_lay 283 = .ok (.iadd, 1) := by decide +kernel
theorem dX9_lay_284 : decode cX9_lay 284 = .ok (.iconst (-1), 1) := by decide +kernel
theorem dX9_lay_285 : decode cX9_lay 285 = .ok (.invokevirtual 131, 3) := by decide +kernel
theorem dX9_lay_288 : decode cX9_lay 288 = .ok (.iinc 6 (-1), 3) := by decide +kernel
theorem dX9_lay_291 : decode cX9_lay 291 = .ok (.iinc 7 1, 3) := by decide +kernel
theorem dX9_lay_294 : decode cX9_lay 294 = .ok (.goto (-64), 3) := by decide +kernel
theorem dX9_lay_297 : decode cX9_lay 297 = .ok (.aload_n 0, 1) := by decide +kernel
theorem dX9_lay_298 : decode cX9_lay 298 = .ok (.iload_n 1, 1) := by decide +kernel
theorem dX9_lay_299 : decode cX9_lay 299 = .ok (.invokevirtual 147, 3) := by decide +kernel
theorem dX9_lay_302 : decode cX9_lay 302 = .ok (.iconst 0, 1) := by decide +kernel
theorem dX9_lay_303 : decode cX9_lay 303 = .ok (.istore 7, 2) := by decide +kernel
theorem dX9_lay_305 : decode cX9_lay 305 = .ok (.iconst 0, 1) := by decide +kernel
theorem dX9_lay_306 : decode cX9_lay 306 = .ok (.istore 8, 2) := by decide +kernel
theorem dX9_lay_308 : decode cX9_lay 308 = .ok (.iload 8, 2) := by decide +kernel
theorem dX9_lay_310 : decode cX9_lay 310 = .ok (.iload_n 3, 1) := by decide +kernel
theorem dX9_lay_311 : decode cX9_lay 311 = .ok (.if_icmp .ge 41, 3) := by decide +kernel
theorem dX9_lay_314 : decode cX9_lay 314 = .ok (.aload_n 0, 1) := by decide +kernel
theorem dX9_lay_315 : decode cX9_lay 315 = .ok (.iload_n 1, 1) := by decide +kernel
theorem dX9_lay_316 : decode cX9_lay 316 = .ok (.iload 8, 2) := by decide +kernel
theorem dX9_lay_318 : decode cX9_lay 318 = .ok (.invokevirtual 143, 3) := by decide +kernel
theorem dX9_lay_321 : decode cX9_lay 321 = .ok (.bipush (-2), 2) := by decide +kernel
theorem dX9_lay_323 : decode cX9_lay 323 = .ok (.if_icmp .eq 6, 3) := by decide +kernel
theorem dX9_lay_326 : decode cX9_lay 326 = .ok (.goto 20, 3) := by decide +kernel
theorem dX9_lay_329 : decode cX9_lay 329 = .ok (.aload_n 0, 1) := by decide +kernel
theorem dX9_lay_330 : decode cX9_lay 330 = .ok (.iload_n 1, 1) := by decide +kernel
theorem dX9_lay_331 : decode cX9_lay 331 = .ok (.iload 8, 2) := by decide +kernel
theorem dX9_lay_333 : decode cX9_lay 333 = .ok (.aload_n 0, 1) := by decide +kernel
theorem dX9_lay_334 : decode cX9_lay 334 = .ok (.getfield 78, 3) := by decide +kernel
theorem dX9_lay_337 : decode cX9_lay 337 = .ok (.iload 7, 2) := by decide +kernel
theorem dX9_lay_339 : decode cX9_lay 339 = .ok (.iaload, 1) := by decide +kernel
theorem dX9_lay_340 : decode cX9_lay 340 = .ok (.invokevirtual 131, 3) := by decide +kernel
theorem dX9_lay_343 : decode cX9_lay 343 = .ok (.iinc 7 1, 3) := by decide +kernel
theorem dX9_lay_346 : decode cX9_lay 346 = .ok (.iinc 8 1, 3) := by decide +kernel
theorem dX9_lay_349 : decode cX9_lay 349 = .ok (.goto (-41), 3) := by decide +kernel
theorem dX9_lay_352 : decode cX9_lay 352 = .ok (.iconst 0, 1) := by decide +kernel
theorem dX9_lay_353 : decode cX9_lay 353 = .ok (.istore 8, 2) := by decide +kernel
theorem dX9_lay_355 : decode cX9_lay 355 = .ok (.iload 8, 2) := by decide +kernel
theorem dX9_lay_357 : decode cX9_lay 357 = .ok (.iload_n 3, 1) := by decide +kernel
theorem dX9_lay_358 : decode cX9_lay 358 = .ok (.iconst 2, 1) := by decide +kernel
theorem dX9_lay_359 : decode cX9_lay 359 = .ok (.idiv, 1) := by decide +kernel
theorem dX9_lay_360 : decode cX9_lay 360 = .ok (.if_icmp .ge 16, 3) := by decide +kernel
theorem dX9_lay_363 : decode cX9_lay 363 = .ok (.aload_n 0, 1) := by decide +kernel
theorem dX9_lay_364 : decode cX9_lay 364 = .ok (.iload_n 1, 1) := by decide +kernel
theorem dX9_lay_365 : decode cX9_lay 365 = .ok (.iload 8, 2) := by decide +kernel
theorem dX9_lay_367 : decode cX9_lay 367 = .ok (.invokevirtual 150, 3) := by decide +kernel
theorem dX9_lay_370 : decode cX9_lay 370 = .ok (.iinc 8 1, 3) := by decide +kernel
theorem dX9_lay_373 : decode cX9_lay 373 = .ok (.goto (-18), 3) := by decide +kernel
theorem dX9_lay_376 : decode cX9_lay 376 = .ok (.aload_n 0, 1) := by decide +kernel
theorem dX9_lay_377 : decode cX9_lay 377 = .ok (.getfield 28, 3) := by decide +kernel
theorem dX9_lay_380 : decode cX9_lay 380 = .ok (.iload_n 1, 1) := by decide +kernel
theorem dX9_lay_381 : decode cX9_lay 381 = .ok (.iconst 1, 1) := by decide +kernel
theorem dX9_lay_382 : decode cX9_lay 382 = .ok (.bastore, 1) := by decide +kernel
theorem dX9_lay_383 : decode cX9_lay 383 = .ok (.iload 5, 2) := by decide +kernel
theorem dX9_lay_385 : decode cX9_lay 385 = .ok (.ireturn, 1) := by decide +kernel
theorem dX9_seedPlace_0 : decode cX9_seedPlace 0 = .ok (.iload_n 1, 1) := by decide +kernel
theorem dX9_seedPlace_1 : decode cX9_seedPlace 1 = .ok (.iconst 2, 1) := by decide +kernel
theorem dX9_seedPlace_2 : decode cX9_seedPlace 2 = .ok (.if_icmp .ge 15, 3) := by decide +kernel
theorem dX9_seedPlace_5 : decode cX9_seedPlace 5 = .ok (.iload_n 1, 1) := by decide +kernel
theorem dX9_seedPlace_6 : decode cX9_seedPlace 6 = .ok (.ifCond .ne 7, 3) := by decide +kernel
theorem dX9_seedPlace_9 : decode cX9_seedPlace 9 = .ok (.iconst 0, 1) := by decide +kernel
theorem dX9_seedPlace_10 : decode cX9_seedPlace 10 = .ok (.goto 6, 3) := by decide +kernel
theorem dX9_seedPlace_13 : decode cX9_seedPlace 13 = .ok (.iload_n 0, 1) := by decide +kernel
theorem dX9_seedPlace_14 : decode cX9_seedPlace 14 = .ok (.iconst 1, 1) := by decide +kernel
theorem dX9_seedPlace_15 : decode cX9_seedPlace 15 = .ok (.isub, 1) := by decide +kernel
theorem dX9_seedPlace_16 : decode cX9_seedPlace 16 = .ok (.ireturn, 1) := by decide +kernel
theorem dX9_seedPlace_17 : decode cX9_seedPlace 17 = .ok (.iload_n 1, 1) := by decide +kernel
theorem dX9_seedPlace_18 : decode cX9_seedPlace 18 = .ok (.iconst 2, 1) := by decide +kernel
theorem dX9_seedPlace_19 : decode cX9_seedPlace 19 = .ok (.if_icmp .ne 7, 3) := by decide +kernel
theorem dX9_seedPlace_22 : decode cX9_seedPlace 22 = .ok (.iconst 1, 1) := by decide +kernel
theorem dX9_seedPlace_23 : decode cX9_seedPlace 23 = .ok (.goto 4, 3) := by decide +kernel
theorem dX9_seedPlace_26 : decode cX9_seedPlace 26 = .ok (.iconst 0, 1) := by decide +kernel
theorem dX9_seedPlace_27 : decode cX9_seedPlace 27 = .ok (.iload_n 2, 1) := by decide +kernel
theorem dX9_seedPlace_28 : decode cX9_seedPlace 28 = .ok (.if_icmp .eq 9, 3) := by decide +kernel
theorem dX9_seedPlace_31 : decode cX9_seedPlace 31 = .ok (.iload_n 0, 1) := by decide +kernel
theorem dX9_seedPlace_32 : decode cX9_seedPlace 32 = .ok (.iconst 2, 1) := by decide +kernel
theorem dX9_seedPlace_33 : decode cX9_seedPlace 33 = .ok (.idiv, 1) := by decide +kernel
theorem dX9_seedPlace_34 : decode cX9_seedPlace 34 = .ok (.goto 8, 3) := by decide +kernel
theorem dX9_seedPlace_37 : decode cX9_seedPlace 37 = .ok (.iload_n 0, 1) := by decide +kernel
theorem dX9_seedPlace_38 : decode cX9_seedPlace 38 = .ok (.iconst 2, 1) := by decide +kernel
theorem dX9_seedPlace_39 : decode cX9_seedPlace 39 = .ok (.idiv, 1) := by decide +kernel
theorem dX9_seedPlace_40 : decode cX9_seedPlace 40 = .ok (.iconst 1, 1) := by decide +kernel
theorem dX9_seedPlace_41 : decode cX9_seedPlace 41 = .ok (.isub, 1) := by decide +kernel
theorem dX9_seedPlace_42 : decode cX9_seedPlace 42 = .ok (.ireturn, 1) := by decide +kernel
theorem dX9_mix_0 : decode cX9_mix 0 = .ok (.aload_n 0, 1) := by decide +kernel
theorem dX9_mix_1 : decode cX9_mix 1 = .ok (.getfield 19, 3) := by decide +kernel
theorem dX9_mix_4 : decode cX9_mix 4 = .ok (.iload_n 1, 1) := by decide +kernel
theorem dX9_mix_5 : decode cX9_mix 5 = .ok (.iaload, 1) := by decide +kernel
theorem dX9_mix_6 : decode cX9_mix 6 = .ok (.aload_n 0, 1) := by decide +kernel
theorem dX9_mix_7 : decode cX9_mix 7 = .ok (.getfield 25, 3) := by decide +kernel
theorem dX9_mix_10 : decode cX9_mix 10 = .ok (.iload_n 1, 1) := by decide +kernel
theorem dX9_mix_11 : decode cX9_mix 11 = .ok (.iaload, 1) := by decide +kernel
theorem dX9_mix_12 : decode cX9_mix 12 = .ok (.isub, 1) := by decide +kernel
theorem dX9_mix_13 : decode cX9_mix 13 = .ok (.istore_n 2, 1) := by decide +kernel
theorem dX9_mix_14 : decode cX9_mix 14 = .ok (.iconst 0, 1) := by decide +kernel
theorem dX9_mix_15 : decode cX9_mix 15 = .ok (.istore_n 3, 1) := by decide +kernel
theorem dX9_mix_16 : decode cX9_mix 16 = .ok (.iload_n 3, 1) := by decide +kernel
theorem dX9_mix_17 : decode cX9_mix 17 = .ok (.iload_n 2, 1) := by decide +kernel
theorem dX9_mix_18 : decode cX9_mix 18 = .ok (.if_icmp .ge 33, 3) := by decide +kernel
theorem dX9_mix_21 : decode cX9_mix 21 = .ok (.aload_n 0, 1) := by decide +kernel
theorem dX9_mix_22 : decode cX9_mix 22 = .ok (.getfield 78, 3) := by decide +kernel
theorem dX9_mix_25 : decode cX9_mix 25 = .ok (.iload_n 3, 1) := by decide +kernel
theorem dX9_mix_26 : decode cX9_mix 26 = .ok (.aload_n 0, 1) := by decide +kernel
theorem dX9_mix_27 : decode cX9_mix 27 = .ok (.getfield 22, 3) := by decide +kernel
theorem dX9_mix_30 : decode cX9_mix 30 = .ok (.bipush 16, 2) := by decide +kernel
theorem dX9_mix_32 : decode cX9_mix 32 = .ok (.iload_n 1, 1) := by decide +kernel
theorem dX9_mix_33 : decode cX9_mix 33 = .ok (.imul, 1) := by decide +kernel
theorem dX9_mix_34 : decode cX9_mix 34 = .ok (.aload_n 0, 1) := by decide +kernel
theorem dX9_mix_35 : decode cX9_mix 35 = .ok (.getfield 25, 3) := by decide +kernel
theorem dX9_mix_38 : decode cX9_mix 38 = .ok (.iload_n 1, 1) := by decide +kernel
theorem dX9_mix_39 : decode cX9_mix 39 = .ok (.iaload, 1) := by decide +kernel
theorem dX9_mix_40 : decode cX9_mix 40 = .ok (.iadd, 1) := by decide +kernel
theorem dX9_mix_41 : decode cX9_mix 41 = .ok (.iload_n 3, 1) := by decide +kernel
theorem dX9_mix_42 : decode cX9_mix 42 = .ok (.iadd, 1) := by decide +kernel
theorem dX9_mix_43 : decode cX9_mix 43 = .ok (.iaload, 1) := by decide +kernel
theorem dX9_mix_44 : decode cX9_mix 44 = .ok (.iastore, 1) := by decide +kernel
theorem dX9_mix_45 : decode cX9_mix 45 = .ok (.iinc 3 1, 3) := by decide +kernel
theorem dX9_mix_48 : decode cX9_mix 48 = .ok (.goto (-32), 3) := by decide +kernel
theorem dX9_mix_51 : decode cX9_mix 51 = .ok (.iload_n 2, 1) := by decide +kernel
theorem dX9_mix_52 : decode cX9_mix 52 = .ok (.iconst 1, 1) := by decide +kernel
theorem dX9_mix_53 : decode cX9_mix 53 = .ok (.isub, 1) := by decide +kernel
theorem dX9_mix_54 : decode cX9_mix 54 = .ok (.istore_n 3, 1) := by decide +kernel
theorem dX9_mix_55 : decode cX9_mix 55 = .ok (.iload_n 3, 1) := by decide +kernel
theorem dX9_mix_56 : decode cX9_mix 56 = .ok (.iconst 1, 1) := by decide +kernel
theorem dX9_mix_57 : decode cX9_mix 57 = .ok (.if_icmp .lt 48, 3) := by decide +kernel
theorem dX9_mix_60 : decode cX9_mix 60 = .ok (.aload_n 0, 1) := by decide +kernel
theorem dX9_mix_61 : decode cX9_mix 61 = .ok (.iload_n 3, 1) := by decide +kernel
theorem dX9_mix_62 : decode cX9_mix 62 = .ok (.iconst 1, 1) := by decide +kernel
theorem dX9_mix_63 : decode cX9_mix 63 = .ok (.iadd, 1) := by decide +kernel
theorem dX9_mix_64 : decode cX9_mix 64 = .ok (.invokevirtual 135, 3) := by decide +kernel
theorem dX9_mix_67 : decode cX9_mix 67 = .ok (.istore 4, 2) := by decide +kernel
theorem dX9_mix_69 : decode cX9_mix 69 = .ok (.aload_n 0, 1) := by decide +kernel
theorem dX9_mix_70 : decode cX9_mix 70 = .ok (.getfield 78, 3) := by decide +kernel
theorem dX9_mix_73 : decode cX9_mix 73 = .ok (.iload_n 3, 1) := by decide +kernel
theorem dX9_mix_74 : decode cX9_mix 74 = .ok (.iaload, 1) := by decide +kernel
theorem dX9_mix_75 : decode cX9_mix 75 = .ok (.istore 5, 2) := by decide +kernel
theorem dX9_mix_77 : decode cX9_mix 77 = .ok (.aload_n 0, 1) := by decide +kernel
theorem dX9_mix_78 : decode cX9_mix 78 = .ok (.getfield 78, 3) := by decide +kernel
theorem dX9_mix_81 : decode cX9_mix 81 = .ok (.iload_n 3, 1) := by decide +kernel
theorem dX9_mix_82 : decode cX9_mix 82 = .ok (.aload_n 0, 1) := by decide +kernel
theorem dX9_mix_83 : decode cX9_mix 83 = .ok (.getfield 78, 3) := by decide +kernel
theorem dX9_mix_86 : decode cX9_mix 86 = .ok (.iload 4, 2) := by decide +kernel
theorem dX9_mix_88 : decode cX9_mix 88 = .ok (.iaload, 1) := by decide +kernel
theorem dX9_mix_89 : decode cX9_mix 89 = .ok (.iastore, 1) := by decide +kernel
theorem dX9_mix_90 : decode cX9_mix 90 = .ok (.aload_n 0, 1) := by decide +kernel
theorem dX9_mix_91 : decode cX9_mix 91 = .ok (.getfield 78, 3) := by decide +kernel
theorem dX9_mix_94 : decode cX9_mix 94 = .ok (.iload 4, 2) := by decide +kernel
theorem dX9_mix_96 : decode cX9_mix 96 = .ok (.iload 5, 2) := by decide +kernel
theorem dX9_mix_98 : decode cX9_mix 98 = .ok (.iastore, 1) := by decide +kernel
theorem dX9_mix_99 : decode cX9_mix 99 = .ok (.iinc 3 (-1), 3) := by decide +kernel
theorem dX9_mix_102 : decode cX9_mix 102 = .ok (.goto (-47), 3) := by decide +kernel
theorem dX9_mix_105 : decode cX9_mix 105 = .ok (.return_, 1) := by decide +kernel
theorem dX9_isOneLand_0 : decode cX9_isOneLand 0 = .ok (.iload_n 1, 1) := by decide +kernel
theorem dX9_isOneLand_1 : decode cX9_isOneLand 1 = .ok (.ifCond .lt 26, 3) := by decide +kernel
theorem dX9_isOneLand_4 : decode cX9_isOneLand 4 = .ok (.iload_n 2, 1) := by decide +kernel
theorem dX9_isOneLand_5 : decode cX9_isOneLand 5 = .ok (.ifCond .lt 22, 3) := by decide +kernel
theorem dX9_isOneLand_8 : decode cX9_isOneLand 8 = .ok (.aload_n 0, 1) := by decide +kernel
theorem dX9_isOneLand_9 : decode cX9_isOneLand 9 = .ok (.getfield 9, 3) := by decide +kernel
theorem dX9_isOneLand_12 : decode cX9_isOneLand 12 = .ok (.iload_n 1, 1) := by decide +kernel
theorem dX9_isOneLand_13 : decode cX9_isOneLand 13 = .ok (.iaload, 1) := by decide +kernel
theorem dX9_isOneLand_14 : decode cX9_isOneLand 14 = .ok (.aload_n 0, 1) := by decide +kernel
theorem dX9_isOneLand_15 : decode cX9_isOneLand 15 = .ok (.getfield 9, 3) := by decide +kernel
theorem dX9_isOneLand_18 : decode cX9_isOneLand 18 = .ok (.iload_n 2, 1) := by decide +kernel
theorem dX9_isOneLand_19 : decode cX9_isOneLand 19 = .ok (.iaload, 1) := by decide +kernel
theorem dX9_isOneLand_20 : decode cX9_isOneLand 20 = .ok (.if_icmp .ne 7, 3) := by decide +kernel
theorem dX9_isOneLand_23 : decode cX9_isOneLand 23 = .ok (.iconst 1, 1) := by decide +kernel
theorem dX9_isOneLand_24 : decode cX9_isOneLand 24 = .ok (.goto 4, 3) := by decide +kernel
theorem dX9_isOneLand_27 : decode cX9_isOneLand 27 = .ok (.iconst 0, 1) := by decide +kernel
theorem dX9_isOneLand_28 : decode cX9_isOneLand 28 = .ok (.ireturn, 1) := by decide +kernel
theorem dX9_part_0 : decode cX9_part 0 = .ok (.aload_n 0, 1) := by decide +kernel
theorem dX9_part_1 : decode cX9_part 1 = .ok (.iload_n 1, 1) := by decide +kernel
theorem dX9_part_2 : decode cX9_part 2 = .ok (.iconst 2, 1) := by decide +kernel
theorem dX9_part_3 : decode cX9_part 3 = .ok (.iload_n 2, 1) := by decide +kernel
theorem dX9_part_4 : decode cX9_part 4 = .ok (.imul, 1) := by decide +kernel
theorem dX9_part_5 : decode cX9_part 5 = .ok (.invokevirtual 143, 3) := by decide +kernel
theorem dX9_part_8 : decode cX9_part 8 = .ok (.istore_n 3, 1) := by decide +kernel
theorem dX9_part_9 : decode cX9_part 9 = .ok (.aload_n 0, 1) := by decide +kernel
theorem dX9_part_10 : decode cX9_part 10 = .ok (.iload_n 1, 1) := by decide +kernel
theorem dX9_part_11 : decode cX9_part 11 = .ok (.iconst 2, 1) := by decide +kernel
theorem dX9_part_12 : decode cX9_part 12 = .ok (.iload_n 2, 1) := by decide +kernel
theorem dX9_part_13 : decode cX9_part 13 = .ok (.imul, 1) := by decide +kernel
theorem dX9_part_14 : decode cX9_part 14 = .ok (.iconst 1, 1) := by decide +kernel
theorem dX9_part_15 : decode cX9_part 15 = .ok (.iadd, 1) := by decide +kernel
theorem dX9_part_16 : decode cX9_part 16 = .ok (.invokevirtual 143, 3) := by decide +kernel
theorem dX9_part_19 : decode cX9_part 19 = .ok (.istore 4, 2) := by decide +kernel
theorem dX9_part_21 : decode cX9_part 21 = .ok (.aload_n 0, 1) := by decide +kernel
theorem dX9_part_22 : decode cX9_part 22 = .ok (.iload_n 3, 1) := by decide +kernel
theorem dX9_part_23 : decode cX9_part 23 = .ok (.iload 4, 2) := by decide +kernel
theorem dX9_part_25 : decode cX9_part 25 = .ok (.invokevirtual 154, 3) := by decide +kernel
theorem dX9_part_28 : decode cX9_part 28 = .ok (.ifCond .eq 22, 3) := by decide +kernel
theorem dX9_part_31 : decode cX9_part 31 = .ok (.aload_n 0, 1) := by decide +kernel
theorem dX9_part_32 : decode cX9_part 32 = .ok (.iload_n 1, 1) := by decide +kernel
theorem dX9_part_33 : decode cX9_part 33 = .ok (.iload_n 3, 1) := by decide +kernel
theorem dX9_part_34 : decode cX9_part 34 = .ok (.invokevirtual 158, 3) := by decide +kernel
theorem dX9_part_37 : decode cX9_part 37 = .ok (.ifCond .eq 14, 3) := by decide +kernel
theorem dX9_part_40 : decode cX9_part 40 = .ok (.aload_n 0, 1) := by decide +kernel
theorem dX9_part_41 : decode cX9_part 41 = .ok (.iload_n 1, 1) := by decide +kernel
theorem dX9_part_42 : decode cX9_part 42 = .ok (.iload 4, 2) := by decide +kernel
theorem dX9_part_44 : decode cX9_part 44 = .ok (.invokevirtual 158, 3) := by decide +kernel
theorem dX9_part_47 : decode cX9_part 47 = .ok (.ifCond .eq 4, 3) := by decide +kernel
theorem dX9_part_50 : decode cX9_part 50 = .ok (.return_, 1) := by decide +kernel
theorem dX9_part_51 : decode cX9_part 51 = .ok (.aload_n 0, 1) := by decide +kernel
theorem dX9_part_52 : decode cX9_part 52 = .ok (.iload_n 1, 1) := by decide +kernel
theorem dX9_part_53 : decode cX9_part 53 = .ok (.iload 4, 2) := by decide +kernel
theorem dX9_part_55 : decode cX9_part 55 = .ok (.invokevirtual 158, 3) := by decide +kernel
theorem dX9_part_58 : decode cX9_part 58 = .ok (.ifCond .eq 9, 3) := by decide +kernel
theorem dX9_part_61 : decode cX9_part 61 = .ok (.iconst 2, 1) := by decide +kernel
theorem dX9_part_62 : decode cX9_part 62 = .ok (.iload_n 2, 1) := by decide +kernel
theorem dX9_part_63 : decode cX9_part 63 = .ok (.imul, 1) := by decide +kernel
theorem dX9_part_64 : decode cX9_part 64 = .ok (.goto 8, 3) := by decide +kernel
theorem dX9_part_67 : decode cX9_part 67 = .ok (.iconst 2, 1) := by decide +kernel
theorem dX9_part_68 : decode cX9_part 68 = .ok (.iload_n 2, 1) := by decide +kernel
theorem dX9_part_69 : decode cX9_part 69 = .ok (.imul, 1) := by decide +kernel
theorem dX9_part_70 : decode cX9_part 70 = .ok (.iconst 1, 1) := by decide +kernel
theorem dX9_part_71 : decode cX9_part 71 = .ok (.iadd, 1) := by decide +kernel
theorem dX9_part_72 : decode cX9_part 72 = .ok (.istore 5, 2) := by decide +kernel
theorem dX9_part_74 : decode cX9_part 74 = .ok (.aload_n 0, 1) := by decide +kernel
theorem dX9_part_75 : decode cX9_part 75 = .ok (.iload_n 1, 1) := by decide +kernel
theorem dX9_part_76 : decode cX9_part 76 = .ok (.iload 5, 2) := by decide +kernel
theorem dX9_part_78 : decode cX9_part 78 = .ok (.invokevirtual 143, 3) := by decide +kernel
theorem dX9_part_81 : decode cX9_part 81 = .ok (.istore 6, 2) := by decide +kernel
theorem dX9_part_83 : decode cX9_part 83 = .ok (.aload_n 0, 1) := by decide +kernel
theorem dX9_part_84 : decode cX9_part 84 = .ok (.iload_n 1, 1) := by decide +kernel
theorem dX9_part_85 : decode cX9_part 85 = .ok (.iload 5, 2) := by decide +kernel
theorem dX9_part_87 : decode cX9_part 87 = .ok (.iconst 1, 1) := by decide +kernel
theorem dX9_part_88 : decode cX9_part 88 = .ok (.ixor, 1) := by decide +kernel
theorem dX9_part_89 : decode cX9_part 89 = .ok (.invokevirtual 143, 3) := by decide +kernel
theorem dX9_part_92 : decode cX9_part 92 = .ok (.istore 7, 2) := by decide +kernel
theorem dX9_part_94 : decode cX9_part 94 = .ok (.iconst 2, 1) := by decide +kernel
theorem dX9_part_95 : decode cX9_part 95 = .ok (.iload_n 2, 1) := by decide +kernel
theorem dX9_part_96 : decode cX9_part 96 = .ok (.imul, 1) := by decide +kernel
theorem dX9_part_97 : decode cX9_part 97 = .ok (.iconst 2, 1) := by decide +kernel
theorem dX9_part_98 : decode cX9_part 98 = .ok (.iadd, 1) := by decide +kernel
theorem dX9_part_99 : decode cX9_part 99 = .ok (.istore 8, 2) := by decide +kernel
theorem dX9_part_101 : decode cX9_part 101 = .ok (.iload 8, 2) := by decide +kernel
theorem dX9_part_103 : decode cX9_part 103 = .ok (.aload_n 0, 1) := by decide +kernel
theorem dX9_part_104 : decode cX9_part 104 = .ok (.getfield 13, 3) := by decide +kernel
theorem dX9_part_107 : decode cX9_part 107 = .ok (.iload_n 1, 1) := by decide +kernel
theorem dX9_part_108 : decode cX9_part 108 = .ok (.iaload, 1) := by decide +kernel
theorem dX9_part_109 : decode cX9_part 109 = .ok (.if_icmp .ge 84, 3) := by decide +kernel
theorem dX9_part_112 : decode cX9_part 112 = .ok (.aload_n 0, 1) := by decide +kernel
theorem dX9_part_113 : decode cX9_part 113 = .ok (.iload_n 1, 1) := by decide +kernel
theorem dX9_part_114 : decode cX9_part 114 = .ok (.iload 8, 2) := by decide +kernel
theorem dX9_part_116 : decode cX9_part 116 = .ok (.invokevirtual 143, 3) := by decide +kernel
theorem dX9_part_119 : decode cX9_part 119 = .ok (.istore 9, 2) := by decide +kernel
theorem dX9_part_121 : decode cX9_part 121 = .ok (.iload 9, 2) := by decide +kernel
theorem dX9_part_123 : decode cX9_part 123 = .ok (.ifCond .lt 64, 3) := by decide +kernel
theorem dX9_part_126 : decode cX9_part 126 = .ok (.aload_n 0, 1) := by decide +kernel
theorem dX9_part_127 : decode cX9_part 127 = .ok (.iload_n 1, 1) := by decide +kernel
theorem dX9_part_128 : decode cX9_part 128 = .ok (.iload 9, 2) := by decide +kernel
theorem dX9_part_130 : decode cX9_part 130 = .ok (.invokevirtual 158, 3) := by decide +kernel
theorem dX9_part_133 : decode cX9_part 133 = .ok (.ifCond .ne 54, 3) := by decide +kernel
theorem dX9_part_136 : decode cX9_part 136 = .ok (.aload_n 0, 1) := by decide +kernel
theorem dX9_part_137 : decode cX9_part 137 = .ok (.iload 7, 2) := by decide +kernel
theorem dX9_part_139 : decode cX9_part 139 = .ok (.iload 9, 2) := by decide +kernel
theorem dX9_part_141 : decode cX9_part 141 = .ok (.invokevirtual 154, 3) := by decide +kernel
theorem dX9_part_144 : decode cX9_part 144 = .ok (.ifCond .ne 43, 3) := by decide +kernel
theorem dX9_part_147 : decode cX9_part 147 = .ok (.aload_n 0, 1) := by decide +kernel
theorem dX9_part_148 : decode cX9_part 148 = .ok (.aload_n 0, 1) := by decide +kernel
theorem dX9_part_149 : decode cX9_part 149 = .ok (.iload_n 1, 1) := by decide +kernel
theorem dX9_part_150 : decode cX9_part 150 = .ok (.iload 8, 2) := by decide +kernel
theorem dX9_part_152 : decode cX9_part 152 = .ok (.iconst 1, 1) := by decide +kernel
theorem dX9_part_153 : decode cX9_part 153 = .ok (.ixor, 1) := by decide +kernel
theorem dX9_part_154 : decode cX9_part 154 = .ok (.invokevirtual 143, 3) := by decide +kernel
theorem dX9_part_157 : decode cX9_part 157 = .ok (.iload 6, 2) := by decide +kernel
theorem dX9_part_159 : decode cX9_part 159 = .ok (.invokevirtual 154, 3) := by decide +kernel
theorem dX9_part_162 : decode cX9_part 162 = .ok (.ifCond .eq 6, 3) := by decide +kernel
theorem dX9_part_165 : decode cX9_part 165 = .ok (.goto 22, 3) := by decide +kernel
theorem dX9_part_168 : decode cX9_part 168 = .ok (.aload_n 0, 1) := by decide +kernel
theorem dX9_part_169 : decode cX9_part 169 = .ok (.iload_n 1, 1) := by decide +kernel
theorem dX9_part_170 : decode cX9_part 170 = .ok (.iload 5, 2) := by decide +kernel
theorem dX9_part_172 : decode cX9_part 172 = .ok (.iload 9, 2) := by decide +kernel
theorem dX9_part_174 : decode cX9_part 174 = .ok (.invokevirtual 131, 3) := by decide +kernel
theorem dX9_part_177 : decode cX9_part 177 = .ok (.aload_n 0, 1) := by decide +kernel
theorem dX9_part_178 : decode cX9_part 178 = .ok (.iload_n 1, 1) := by decide +kernel
theorem dX9_part_179 : decode cX9_part 179 = .ok (.iload 8, 2) := by decide +kernel
theorem dX9_part_181 : decode cX9_part 181 = .ok (.iload 6, 2) := by decide +kernel
theorem dX9_part_183 : decode cX9_part 183 = .ok (.invokevirtual 131, 3) := by decide +kernel
theorem dX9_part_186 : decode cX9_part 186 = .ok (.return_, 1) := by decide +kernel
theorem dX9_part_187 : decode cX9_part 187 = .ok (.iinc 8 1, 3) := by decide +kernel
theorem dX9_part_190 : decode cX9_part 190 = .ok (.goto (-89), 3) := by decide +kernel
theorem dX9_part_193 : decode cX9_part 193 = .ok (.return_, 1) := by decide +kernel
theorem dX9_place_0 : decode cX9_place 0 = .ok (.aload_n 0, 1) := by decide +kernel
theorem dX9_place_1 : decode cX9_place 1 = .ok (.iload_n 1, 1) := by decide +kernel
theorem dX9_place_2 : decode cX9_place 2 = .ok (.invokevirtual 123, 3) := by decide +kernel
theorem dX9_place_5 : decode cX9_place 5 = .ok (.ifCond .eq 37, 3) := by decide +kernel
theorem dX9_place_8 : decode cX9_place 8 = .ok (.aload_n 0, 1) := by decide +kernel
theorem dX9_place_9 : decode cX9_place 9 = .ok (.getfield 28, 3) := by decide +kernel
theorem dX9_place_12 : decode cX9_place 12 = .ok (.iload_n 1, 1) := by decide +kernel
theorem dX9_place_13 : decode cX9_place 13 = .ok (.baload, 1) := by decide +kernel
theorem dX9_place_14 : decode cX9_place 14 = .ok (.ifCond .eq 28, 3) := by decide +kernel
theorem dX9_place_17 : decode cX9_place 17 = .ok (.iload_n 2, 1) := by decide +kernel
theorem dX9_place_18 : decode cX9_place 18 = .ok (.iconst 0, 1) := by decide +kernel
theorem dX9_place_19 : decode cX9_place 19 = .ok (.aload_n 0, 1) := by decide +kernel
theorem dX9_place_20 : decode cX9_place 20 = .ok (.getfield 13, 3) := by decide +kernel
theorem dX9_place_23 : decode cX9_place 23 = .ok (.iload_n 1, 1) := by decide +kernel
theorem dX9_place_24 : decode cX9_place 24 = .ok (.iaload, 1) := by decide +kernel
theorem dX9_place_25 : decode cX9_place 25 = .ok (.iconst 1, 1) := by decide +kernel
theorem dX9_place_26 : decode cX9_place 26 = .ok (.isub, 1) := by decide +kernel
theorem dX9_place_27 : decode cX9_place 27 = .ok (.invokestatic 111, 3) := by decide +kernel
theorem dX9_place_30 : decode cX9_place 30 = .ok (.ifCond .eq 12, 3) := by decide +kernel
theorem dX9_place_33 : decode cX9_place 33 = .ok (.aload_n 0, 1) := by decide +kernel
theorem dX9_place_34 : decode cX9_place 34 = .ok (.iload_n 1, 1) := by decide +kernel
theorem dX9_place_35 : decode cX9_place 35 = .ok (.iload_n 2, 1) := by decide +kernel
theorem dX9_place_36 : decode cX9_place 36 = .ok (.invokevirtual 143, 3) := by decide +kernel
theorem dX9_place_39 : decode cX9_place 39 = .ok (.goto 5, 3) := by decide +kernel
theorem dX9_place_42 : decode cX9_place 42 = .ok (.bipush (-2), 2) := by decide +kernel
theorem dX9_place_44 : decode cX9_place 44 = .ok (.ireturn, 1) := by decide +kernel
theorem dX9_rounds_0 : decode cX9_rounds 0 = .ok (.aload_n 0, 1) := by decide +kernel
theorem dX9_rounds_1 : decode cX9_rounds 1 = .ok (.getfield 13, 3) := by decide +kernel
theorem dX9_rounds_4 : decode cX9_rounds 4 = .ok (.iload_n 1, 1) := by decide +kernel
theorem dX9_rounds_5 : decode cX9_rounds 5 = .ok (.iaload, 1) := by decide +kernel
theorem dX9_rounds_6 : decode cX9_rounds 6 = .ok (.iconst 4, 1) := by decide +kernel
theorem dX9_rounds_7 : decode cX9_rounds 7 = .ok (.if_icmp .ne 7, 3) := by decide +kernel
theorem dX9_rounds_10 : decode cX9_rounds 10 = .ok (.iconst 2, 1) := by decide +kernel
theorem dX9_rounds_11 : decode cX9_rounds 11 = .ok (.goto 19, 3) := by decide +kernel
theorem dX9_rounds_14 : decode cX9_rounds 14 = .ok (.aload_n 0, 1) := by decide +kernel
theorem dX9_rounds_15 : decode cX9_rounds 15 = .ok (.getfield 13, 3) := by decide +kernel
theorem dX9_rounds_18 : decode cX9_rounds 18 = .ok (.iload_n 1, 1) := by decide +kernel
theorem dX9_rounds_19 : decode cX9_rounds 19 = .ok (.iaload, 1) := by decide +kernel
theorem dX9_rounds_20 : decode cX9_rounds 20 = .ok (.bipush 8, 2) := by decide +kernel
theorem dX9_rounds_22 : decode cX9_rounds 22 = .ok (.if_icmp .ne 7, 3) := by decide +kernel
theorem dX9_rounds_25 : decode cX9_rounds 25 = .ok (.iconst 3, 1) := by decide +kernel
theorem dX9_rounds_26 : decode cX9_rounds 26 = .ok (.goto 4, 3) := by decide +kernel
theorem dX9_rounds_29 : decode cX9_rounds 29 = .ok (.iconst 4, 1) := by decide +kernel
theorem dX9_rounds_30 : decode cX9_rounds 30 = .ok (.ireturn, 1) := by decide +kernel
theorem dX9_of_0 : decode cX9_of 0 = .ok (.aload_n 0, 1) := by decide +kernel
theorem dX9_of_1 : decode cX9_of 1 = .ok (.iload_n 1, 1) := by decide +kernel
theorem dX9_of_2 : decode cX9_of 2 = .ok (.invokevirtual 123, 3) := by decide +kernel
theorem dX9_of_5 : decode cX9_of 5 = .ok (.ifCond .ne 5, 3) := by decide +kernel
theorem dX9_of_8 : decode cX9_of 8 = .ok (.iconst (-1), 1) := by decide +kernel
theorem dX9_of_9 : decode cX9_of 9 = .ok (.ireturn, 1) := by decide +kernel
theorem dX9_of_10 : decode cX9_of 10 = .ok (.iload_n 2, 1) := by decide +kernel
theorem dX9_of_11 : decode cX9_of 11 = .ok (.tableswitch 231 0 6 #[41, 48, 55, 62, 69, 84, 132], 41) := by decide +kernel
theorem dX9_of_52 : decode cX9_of 52 = .ok (.aload_n 0, 1) := by decide +kernel
theorem dX9_of_53 : decode cX9_of 53 = .ok (.getfield 13, 3) := by decide +kernel
theorem dX9_of_56 : decode cX9_of 56 = .ok (.iload_n 1, 1) := by decide +kernel
theorem dX9_of_57 : decode cX9_of 57 = .ok (.iaload, 1) := by decide +kernel
theorem dX9_of_58 : decode cX9_of 58 = .ok (.ireturn, 1) := by decide +kernel
theorem dX9_of_59 : decode cX9_of 59 = .ok (.aload_n 0, 1) := by decide +kernel
theorem dX9_of_60 : decode cX9_of 60 = .ok (.getfield 16, 3) := by decide +kernel
theorem dX9_of_63 : decode cX9_of 63 = .ok (.iload_n 1, 1) := by decide +kernel
theorem dX9_of_64 : decode cX9_of 64 = .ok (.iaload, 1) := by decide +kernel
theorem dX9_of_65 : decode cX9_of 65 = .ok (.ireturn, 1) := by decide +kernel
theorem dX9_of_66 : decode cX9_of 66 = .ok (.aload_n 0, 1) := by decide +kernel
theorem dX9_of_67 : decode cX9_of 67 = .ok (.getfield 19, 3) := by decide +kernel
theorem dX9_of_70 : decode cX9_of 70 = .ok (.iload_n 1, 1) := by decide +kernel
theorem dX9_of_71 : decode cX9_of 71 = .ok (.iaload, 1) := by decide +kernel
theorem dX9_of_72 : decode cX9_of 72 = .ok (.ireturn, 1) := by decide +kernel
theorem dX9_of_73 : decode cX9_of 73 = .ok (.aload_n 0, 1) := by decide +kernel
theorem dX9_of_74 : decode cX9_of 74 = .ok (.getfield 25, 3) := by decide +kernel
theorem dX9_of_77 : decode cX9_of 77 = .ok (.iload_n 1, 1) := by decide +kernel
theorem dX9_of_78 : decode cX9_of 78 = .ok (.iaload, 1) := by decide +kernel
theorem dX9_of_79 : decode cX9_of 79 = .ok (.ireturn, 1) := by decide +kernel
theorem dX9_of_80 : decode cX9_of 80 = .ok (.aload_n 0, 1) := by decide +kernel
theorem dX9_of_81 : decode cX9_of 81 = .ok (.getfield 28, 3) := by decide +kernel
theorem dX9_of_84 : decode cX9_of 84 = .ok (.iload_n 1, 1) := by decide +kernel
theorem dX9_of_85 : decode cX9_of 85 = .ok (.baload, 1) := by decide +kernel
theorem dX9_of_86 : decode cX9_of 86 = .ok (.ifCond .eq 7, 3) := by decide +kernel
theorem dX9_of_89 : decode cX9_of 89 = .ok (.iconst 1, 1) := by decide +kernel
theorem dX9_of_90 : decode cX9_of 90 = .ok (.goto 4, 3) := by decide +kernel
theorem dX9_of_93 : decode cX9_of 93 = .ok (.iconst 0, 1) := by decide +kernel
theorem dX9_of_94 : decode cX9_of 94 = .ok (.ireturn, 1) := by decide +kernel
theorem dX9_of_95 : decode cX9_of 95 = .ok (.iconst 0, 1) := by decide +kernel
theorem dX9_of_96 : decode cX9_of 96 = .ok (.istore_n 3, 1) := by decide +kernel
theorem dX9_of_97 : decode cX9_of 97 = .ok (.iconst 0, 1) := by decide +kernel
theorem dX9_of_98 : decode cX9_of 98 = .ok (.istore 4, 2) := by decide +kernel
theorem dX9_of_100 : decode cX9_of 100 = .ok (.iload 4, 2) := by decide +kernel
theorem dX9_of_102 : decode cX9_of 102 = .ok (.aload_n 0, 1) := by decide +kernel
theorem dX9_of_103 : decode cX9_of 103 = .ok (.getfield 13, 3) := by decide +kernel
theorem dX9_of_106 : decode cX9_of 106 = .ok (.iload_n 1, 1) := by decide +kernel
theorem dX9_of_107 : decode cX9_of 107 = .ok (.iaload, 1) := by decide +kernel
theorem dX9_of_108 : decode cX9_of 108 = .ok (.iconst 1, 1) := by decide +kernel
theorem dX9_of_109 : decode cX9_of 109 = .ok (.isub, 1) := by decide +kernel
theorem dX9_of_110 : decode cX9_of 110 = .ok (.if_icmp .ge 31, 3) := by decide +kernel
theorem dX9_of_113 : decode cX9_of 113 = .ok (.iload_n 3, 1) := by decide +kernel
theorem dX9_of_114 : decode cX9_of 114 = .ok (.aload_n 0, 1) := by decide +kernel
theorem dX9_of_115 : decode cX9_of 115 = .ok (.bipush 16, 2) := by decide +kernel
theorem dX9_of_117 : decode cX9_of 117 = .ok (.iload_n 1, 1) := by decide +kernel
theorem dX9_of_118 : decode cX9_of 118 = .ok (.imul, 1) := by decide +kernel
theorem dX9_of_119 : decode cX9_of 119 = .ok (.iload 4, 2) := by decide +kernel
theorem dX9_of_121 : decode cX9_of 121 = .ok (.iadd, 1) := by decide +kernel
theorem dX9_of_122 : decode cX9_of 122 = .ok (.invokevirtual 161, 3) := by decide +kernel
theorem dX9_of_125 : decode cX9_of 125 = .ok (.ifCond .eq 7, 3) := by decide +kernel
theorem dX9_of_128 : decode cX9_of 128 = .ok (.iconst 1, 1) := by decide +kernel
theorem dX9_of_129 : decode cX9_of 129 = .ok (.goto 4, 3) := by decide +kernel
theorem dX9_of_132 : decode cX9_of 132 = .ok (.iconst 0, 1) := by decide +kernel
theorem dX9_of_133 : decode cX9_of 133 = .ok (.iadd, 1) := by decide +kernel
theorem dX9_of_134 : decode cX9_of 134 = .ok (.istore_n 3, 1) := by decide +kernel
theorem dX9_of_135 : decode cX9_of 135 = .ok (.iinc 4 1, 3) := by decide +kernel
theorem dX9_of_138 : decode cX9_of 138 = .ok (.goto (-38), 3) := by decide +kernel
theorem dX9_of_141 : decode cX9_of 141 = .ok (.iload_n 3, 1) := by decide +kernel
theorem dX9_of_142 : decode cX9_of 142 = .ok (.ireturn, 1) := by decide +kernel
theorem dX9_of_143 : decode cX9_of 143 = .ok (.iconst 0, 1) := by decide +kernel
theorem dX9_of_144 : decode cX9_of 144 = .ok (.istore_n 3, 1) := by decide +kernel
theorem dX9_of_145 : decode cX9_of 145 = .ok (.iconst 0, 1) := by decide +kernel
theorem dX9_of_146 : decode cX9_of 146 = .ok (.istore 4, 2) := by decide +kernel
theorem dX9_of_148 : decode cX9_of 148 = .ok (.iload 4, 2) := by decide +kernel
theorem dX9_of_150 : decode cX9_of 150 = .ok (.aload_n 0, 1) := by decide +kernel
theorem dX9_of_151 : decode cX9_of 151 = .ok (.iload_n 1, 1) := by decide +kernel
theorem dX9_of_152 : decode cX9_of 152 = .ok (.invokevirtual 164, 3) := by decide +kernel
theorem dX9_of_155 : decode cX9_of 155 = .ok (.if_icmp .ge 85, 3) := by decide +kernel
theorem dX9_of_158 : decode cX9_of 158 = .ok (.iconst 0, 1) := by decide +kernel
theorem dX9_of_159 : decode cX9_of 159 = .ok (.istore 5, 2) := by decide +kernel
theorem dX9_of_161 : decode cX9_of 161 = .ok (.iconst 0, 1) := by decide +kernel
theorem dX9_of_162 : decode cX9_of 162 = .ok (.istore 6, 2) := by decide +kernel
theorem dX9_of_164 : decode cX9_of 164 = .ok (.iload 6, 2) := by decide +kernel
theorem dX9_of_166 : decode cX9_of 166 = .ok (.aload_n 0, 1) := by decide +kernel
theorem dX9_of_167 : decode cX9_of 167 = .ok (.getfield 13, 3) := by decide +kernel
theorem dX9_of_170 : decode cX9_of 170 = .ok (.iload_n 1, 1) := by decide +kernel
theorem dX9_of_171 : decode cX9_of 171 = .ok (.iaload, 1) := by decide +kernel
theorem dX9_of_172 : decode cX9_of 172 = .ok (.iconst 1, 1) := by decide +kernel
theorem dX9_of_173 : decode cX9_of 173 = .ok (.isub, 1) := by decide +kernel
theorem dX9_of_174 : decode cX9_of 174 = .ok (.if_icmp .ge 47, 3) := by decide +kernel
theorem dX9_of_177 : decode cX9_of 177 = .ok (.iload 5, 2) := by decide +kernel
theorem dX9_of_179 : decode cX9_of 179 = .ok (.ifCond .ne 29, 3) := by decide +kernel
theorem dX9_of_182 : decode cX9_of 182 = .ok (.aload_n 0, 1) := by decide +kernel
theorem dX9_of_183 : decode cX9_of 183 = .ok (.iload_n 1, 1) := by decide +kernel
theorem dX9_of_184 : decode cX9_of 184 = .ok (.iload 6, 2) := by decide +kernel
theorem dX9_of_186 : decode cX9_of 186 = .ok (.invokevirtual 167, 3) := by decide +kernel
theorem dX9_of_189 : decode cX9_of 189 = .ok (.iload 4, 2) := by decide +kernel
theorem dX9_of_191 : decode cX9_of 191 = .ok (.if_icmp .ne 21, 3) := by decide +kernel
theorem dX9_of_194 : decode cX9_of 194 = .ok (.aload_n 0, 1) := by decide +kernel
theorem dX9_of_195 : decode cX9_of 195 = .ok (.bipush 16, 2) := by decide +kernel
theorem dX9_of_197 : decode cX9_of 197 = .ok (.iload_n 1, 1) := by decide +kernel
theorem dX9_of_198 : decode cX9_of 198 = .ok (.imul, 1) := by decide +kernel
theorem dX9_of_199 : decode cX9_of 199 = .ok (.iload 6, 2) := by decide +kernel
theorem dX9_of_201 : decode cX9_of 201 = .ok (.iadd, 1) := by decide +kernel
theorem dX9_of_202 : decode cX9_of 202 = .ok (.invokevirtual 161, 3) := by decide +kernel
theorem dX9_of_205 : decode cX9_of 205 = .ok (.ifCond .ne 7, 3) := by decide +kernel
theorem dX9_of_208 : decode cX9_of 208 = .ok (.iconst 1, 1) := by decide +kernel
theorem dX9_of_209 : decode cX9_of 209 = .ok (.goto 4, 3) := by decide +kernel
theorem dX9_of_212 : decode cX9_of 212 = .ok (.iconst 0, 1) := by decide +kernel
theorem dX9_of_213 : decode cX9_of 213 = .ok (.istore 5, 2) := by decide +kernel
theorem dX9_of_215 : decode cX9_of 215 = .ok (.iinc 6 1, 3) := by decide +kernel
theorem dX9_of_218 : decode cX9_of 218 = .ok (.goto (-54), 3) := by decide +kernel
theorem dX9_of_221 : decode cX9_of 221 = .ok (.iload_n 3, 1) := by decide +kernel
theorem dX9_of_222 : decode cX9_of 222 = .ok (.iload 5, 2) := by decide +kernel
theorem dX9_of_224 : decode cX9_of 224 = .ok (.ifCond .eq 7, 3) := by decide +kernel
theorem dX9_of_227 : decode cX9_of 227 = .ok (.iconst 1, 1) := by decide +kernel
theorem dX9_of_228 : decode cX9_of 228 = .ok (.goto 4, 3) := by decide +kernel
theorem dX9_of_231 : decode cX9_of 231 = .ok (.iconst 0, 1) := by decide +kernel
theorem dX9_of_232 : decode cX9_of 232 = .ok (.iadd, 1) := by decide +kernel
theorem dX9_of_233 : decode cX9_of 233 = .ok (.istore_n 3, 1) := by decide +kernel
theorem dX9_of_234 : decode cX9_of 234 = .ok (.iinc 4 1, 3) := by decide +kernel
theorem dX9_of_237 : decode cX9_of 237 = .ok (.goto (-89), 3) := by decide +kernel
theorem dX9_of_240 : decode cX9_of 240 = .ok (.iload_n 3, 1) := by decide +kernel
theorem dX9_of_241 : decode cX9_of 241 = .ok (.ireturn, 1) := by decide +kernel
theorem dX9_of_242 : decode cX9_of 242 = .ok (.iconst (-1), 1) := by decide +kernel
theorem dX9_of_243 : decode cX9_of 243 = .ok (.ireturn, 1) := by decide +kernel
theorem dX9_roundOf_0 : decode cX9_roundOf 0 = .ok (.iconst 0, 1) := by decide +kernel
theorem dX9_roundOf_1 : decode cX9_roundOf 1 = .ok (.istore_n 3, 1) := by decide +kernel
theorem dX9_roundOf_2 : decode cX9_roundOf 2 = .ok (.iconst 0, 1) := by decide +kernel
theorem dX9_roundOf_3 : decode cX9_roundOf 3 = .ok (.istore 4, 2) := by decide +kernel
theorem dX9_roundOf_5 : decode cX9_roundOf 5 = .ok (.aload_n 0, 1) := by decide +kernel
theorem dX9_roundOf_6 : decode cX9_roundOf 6 = .ok (.getfield 13, 3) := by decide +kernel
theorem dX9_roundOf_9 : decode cX9_roundOf 9 = .ok (.iload_n 1, 1) := by decide +kernel
theorem dX9_roundOf_10 : decode cX9_roundOf 10 = .ok (.iaload, 1) := by decide +kernel
theorem dX9_roundOf_11 : decode cX9_roundOf 11 = .ok (.iconst 2, 1) := by decide +kernel
theorem dX9_roundOf_12 : decode cX9_roundOf 12 = .ok (.idiv, 1) := by decide +kernel
theorem dX9_roundOf_13 : decode cX9_roundOf 13 = .ok (.istore 5, 2) := by decide +kernel
theorem dX9_roundOf_15 : decode cX9_roundOf 15 = .ok (.iload_n 2, 1) := by decide +kernel
theorem dX9_roundOf_16 : decode cX9_roundOf 16 = .ok (.iload 4, 2) := by decide +kernel
theorem dX9_roundOf_18 : decode cX9_roundOf 18 = .ok (.iload 5, 2) := by decide +kernel
theorem dX9_roundOf_20 : decode cX9_roundOf 20 = .ok (.iadd, 1) := by decide +kernel
theorem dX9_roundOf_21 : decode cX9_roundOf 21 = .ok (.if_icmp .lt 22, 3) := by decide +kernel
theorem dX9_roundOf_24 : decode cX9_roundOf 24 = .ok (.iload 4, 2) := by decide +kernel
theorem dX9_roundOf_26 : decode cX9_roundOf 26 = .ok (.iload 5, 2) := by decide +kernel
theorem dX9_roundOf_28 : decode cX9_roundOf 28 = .ok (.iadd, 1) := by decide +kernel
theorem dX9_roundOf_29 : decode cX9_roundOf 29 = .ok (.istore 4, 2) := by decide +kernel
theorem dX9_roundOf_31 : decode cX9_roundOf 31 = .ok (.iload 5, 2) := by decide +kernel
theorem dX9_roundOf_33 : decode cX9_roundOf 33 = .ok (.iconst 2, 1) := by decide +kernel
theorem dX9_roundOf_34 : decode cX9_roundOf 34 = .ok (.idiv, 1) := by decide +kernel
theorem dX9_roundOf_35 : decode cX9_roundOf 35 = .ok (.istore 5, 2) := by decide +kernel
theorem dX9_roundOf_37 : decode cX9_roundOf 37 = .ok (.iinc 3 1, 3) := by decide +kernel
theorem dX9_roundOf_40 : decode cX9_roundOf 40 = .ok (.goto (-25), 3) := by decide +kernel
theorem dX9_roundOf_43 : decode cX9_roundOf 43 = .ok (.iload_n 3, 1) := by decide +kernel
theorem dX9_roundOf_44 : decode cX9_roundOf 44 = .ok (.ireturn, 1) := by decide +kernel
theorem dX9_firstOf_0 : decode cX9_firstOf 0 = .ok (.iconst 0, 1) := by decide +kernel
theorem dX9_firstOf_1 : decode cX9_firstOf 1 = .ok (.istore_n 3, 1) := by decide +kernel
theorem dX9_firstOf_2 : decode cX9_firstOf 2 = .ok (.iconst 0, 1) := by decide +kernel
theorem dX9_firstOf_3 : decode cX9_firstOf 3 = .ok (.istore 4, 2) := by decide +kernel
theorem dX9_firstOf_5 : decode cX9_firstOf 5 = .ok (.iload 4, 2) := by decide +kernel
theorem dX9_firstOf_7 : decode cX9_firstOf 7 = .ok (.iload_n 2, 1) := by decide +kernel
theorem dX9_firstOf_8 : decode cX9_firstOf 8 = .ok (.if_icmp .ge 23, 3) := by decide +kernel
theorem dX9_firstOf_11 : decode cX9_firstOf 11 = .ok (.iload_n 3, 1) := by decide +kernel
theorem dX9_firstOf_12 : decode cX9_firstOf 12 = .ok (.aload_n 0, 1) := by decide +kernel
theorem dX9_firstOf_13 : decode cX9_firstOf 13 = .ok (.getfield 13, 3) := by decide +kernel
theorem dX9_firstOf_16 : decode cX9_firstOf 16 = .ok (.iload_n 1, 1) := by decide +kernel
theorem dX9_firstOf_17 : decode cX9_firstOf 17 = .ok (.iaload, 1) := by decide +kernel
theorem dX9_firstOf_18 : decode cX9_firstOf 18 = .ok (.iload 4, 2) := by decide +kernel
theorem dX9_firstOf_20 : decode cX9_firstOf 20 = .ok (.iconst 1, 1) := by decide +kernel
theorem dX9_firstOf_21 : decode cX9_firstOf 21 = .ok (.iadd, 1) := by decide +kernel
theorem dX9_firstOf_22 : decode cX9_firstOf 22 = .ok (.ishr, 1) := by decide +kernel
theorem dX9_firstOf_23 : decode cX9_firstOf 23 = .ok (.iadd, 1) := by decide +kernel
theorem dX9_firstOf_24 : decode cX9_firstOf 24 = .ok (.istore_n 3, 1) := by decide +kernel
theorem dX9_firstOf_25 : decode cX9_firstOf 25 = .ok (.iinc 4 1, 3) := by decide +kernel
theorem dX9_firstOf_28 : decode cX9_firstOf 28 = .ok (.goto (-23), 3) := by decide +kernel
theorem dX9_firstOf_31 : decode cX9_firstOf 31 = .ok (.iload_n 3, 1) := by decide +kernel
theorem dX9_firstOf_32 : decode cX9_firstOf 32 = .ok (.ireturn, 1) := by decide +kernel
theorem dX9_placeOf_0 : decode cX9_placeOf 0 = .ok (.iconst 0, 1) := by decide +kernel
theorem dX9_placeOf_1 : decode cX9_placeOf 1 = .ok (.istore_n 3, 1) := by decide +kernel
theorem dX9_placeOf_2 : decode cX9_placeOf 2 = .ok (.iload_n 3, 1) := by decide +kernel
theorem dX9_placeOf_3 : decode cX9_placeOf 3 = .ok (.aload_n 0, 1) := by decide +kernel
theorem dX9_placeOf_4 : decode cX9_placeOf 4 = .ok (.getfield 13, 3) := by decide +kernel
theorem dX9_placeOf_7 : decode cX9_placeOf 7 = .ok (.iload_n 1, 1) := by decide +kernel
theorem dX9_placeOf_8 : decode cX9_placeOf 8 = .ok (.iaload, 1) := by decide +kernel
theorem dX9_placeOf_9 : decode cX9_placeOf 9 = .ok (.if_icmp .ge 21, 3) := by decide +kernel
theorem dX9_placeOf_12 : decode cX9_placeOf 12 = .ok (.aload_n 0, 1) := by decide +kernel
theorem dX9_placeOf_13 : decode cX9_placeOf 13 = .ok (.iload_n 1, 1) := by decide +kernel
theorem dX9_placeOf_14 : decode cX9_placeOf 14 = .ok (.iload_n 3, 1) := by decide +kernel
theorem dX9_placeOf_15 : decode cX9_placeOf 15 = .ok (.invokevirtual 143, 3) := by decide +kernel
theorem dX9_placeOf_18 : decode cX9_placeOf 18 = .ok (.iload_n 2, 1) := by decide +kernel
theorem dX9_placeOf_19 : decode cX9_placeOf 19 = .ok (.if_icmp .ne 5, 3) := by decide +kernel
theorem dX9_placeOf_22 : decode cX9_placeOf 22 = .ok (.iload_n 3, 1) := by decide +kernel
theorem dX9_placeOf_23 : decode cX9_placeOf 23 = .ok (.ireturn, 1) := by decide +kernel
theorem dX9_placeOf_24 : decode cX9_placeOf 24 = .ok (.iinc 3 1, 3) := by decide +kernel
theorem dX9_placeOf_27 : decode cX9_placeOf 27 = .ok (.goto (-25), 3) := by decide +kernel
theorem dX9_placeOf_30 : decode cX9_placeOf 30 = .ok (.iconst (-1), 1) := by decide +kernel
theorem dX9_placeOf_31 : decode cX9_placeOf 31 = .ok (.ireturn, 1) := by decide +kernel
theorem dX9_lucky_0 : decode cX9_lucky 0 = .ok (.aload_n 0, 1) := by decide +kernel
theorem dX9_lucky_1 : decode cX9_lucky 1 = .ok (.iload_n 1, 1) := by decide +kernel
theorem dX9_lucky_2 : decode cX9_lucky 2 = .ok (.invokevirtual 123, 3) := by decide +kernel
theorem dX9_lucky_5 : decode cX9_lucky 5 = .ok (.ifCond .eq 17, 3) := by decide +kernel
theorem dX9_lucky_8 : decode cX9_lucky 8 = .ok (.iload_n 2, 1) := by decide +kernel
theorem dX9_lucky_9 : decode cX9_lucky 9 = .ok (.invokestatic 115, 3) := by decide +kernel
theorem dX9_lucky_12 : decode cX9_lucky 12 = .ok (.ifCond .eq 10, 3) := by decide +kernel
theorem dX9_lucky_15 : decode cX9_lucky 15 = .ok (.iload_n 3, 1) := by decide +kernel
theorem dX9_lucky_16 : decode cX9_lucky 16 = .ok (.invokestatic 115, 3) := by decide +kernel
theorem dX9_lucky_19 : decode cX9_lucky 19 = .ok (.ifCond .ne 5, 3) := by decide +kernel
theorem dX9_lucky_22 : decode cX9_lucky 22 = .ok (.iconst (-1), 1) := by decide +kernel
theorem dX9_lucky_23 : decode cX9_lucky 23 = .ok (.ireturn, 1) := by decide +kernel
theorem dX9_lucky_24 : decode cX9_lucky 24 = .ok (.aload_n 0, 1) := by decide +kernel
theorem dX9_lucky_25 : decode cX9_lucky 25 = .ok (.getfield 28, 3) := by decide +kernel
theorem dX9_lucky_28 : decode cX9_lucky 28 = .ok (.iload_n 1, 1) := by decide +kernel
theorem dX9_lucky_29 : decode cX9_lucky 29 = .ok (.baload, 1) := by decide +kernel
theorem dX9_lucky_30 : decode cX9_lucky 30 = .ok (.ifCond .ne 6, 3) := by decide +kernel
theorem dX9_lucky_33 : decode cX9_lucky 33 = .ok (.bipush (-4), 2) := by decide +kernel
theorem dX9_lucky_35 : decode cX9_lucky 35 = .ok (.ireturn, 1) := by decide +kernel
theorem dX9_lucky_36 : decode cX9_lucky 36 = .ok (.aload_n 0, 1) := by decide +kernel
theorem dX9_lucky_37 : decode cX9_lucky 37 = .ok (.getfield 35, 3) := by decide +kernel
theorem dX9_lucky_40 : decode cX9_lucky 40 = .ok (.bipush 40, 2) := by decide +kernel
theorem dX9_lucky_42 : decode cX9_lucky 42 = .ok (.iload_n 1, 1) := by decide +kernel
theorem dX9_lucky_43 : decode cX9_lucky 43 = .ok (.imul, 1) := by decide +kernel
theorem dX9_lucky_44 : decode cX9_lucky 44 = .ok (.iload_n 3, 1) := by decide +kernel
theorem dX9_lucky_45 : decode cX9_lucky 45 = .ok (.iadd, 1) := by decide +kernel
theorem dX9_lucky_46 : decode cX9_lucky 46 = .ok (.baload, 1) := by decide +kernel
theorem dX9_lucky_47 : decode cX9_lucky 47 = .ok (.ifCond .eq 6, 3) := by decide +kernel
theorem dX9_lucky_50 : decode cX9_lucky 50 = .ok (.bipush (-3), 2) := by decide +kernel
theorem dX9_lucky_52 : decode cX9_lucky 52 = .ok (.ireturn, 1) := by decide +kernel
theorem dX9_lucky_53 : decode cX9_lucky 53 = .ok (.aload_n 0, 1) := by decide +kernel
theorem dX9_lucky_54 : decode cX9_lucky 54 = .ok (.iload_n 1, 1) := by decide +kernel
theorem dX9_lucky_55 : decode cX9_lucky 55 = .ok (.iload_n 2, 1) := by decide +kernel
theorem dX9_lucky_56 : decode cX9_lucky 56 = .ok (.invokevirtual 170, 3) := by decide +kernel
theorem dX9_lucky_59 : decode cX9_lucky 59 = .ok (.istore 4, 2) := by decide +kernel
theorem dX9_lucky_61 : decode cX9_lucky 61 = .ok (.iload 4, 2) := by decide +kernel
theorem dX9_lucky_63 : decode cX9_lucky 63 = .ok (.ifCond .ge 6, 3) := by decide +kernel
theorem dX9_lucky_66 : decode cX9_lucky 66 = .ok (.bipush (-5), 2) := by decide +kernel
theorem dX9_lucky_68 : decode cX9_lucky 68 = .ok (.ireturn, 1) := by decide +kernel
theorem dX9_lucky_69 : decode cX9_lucky 69 = .ok (.bipush 16, 2) := by decide +kernel
theorem dX9_lucky_71 : decode cX9_lucky 71 = .ok (.iload_n 1, 1) := by decide +kernel
theorem dX9_lucky_72 : decode cX9_lucky 72 = .ok (.imul, 1) := by decide +kernel
theorem dX9_lucky_73 : decode cX9_lucky 73 = .ok (.istore 5, 2) := by decide +kernel
theorem dX9_lucky_75 : decode cX9_lucky 75 = .ok (.iload 5, 2) := by decide +kernel
theorem dX9_lucky_77 : decode cX9_lucky 77 = .ok (.bipush 16, 2) := by decide +kernel
theorem dX9_lucky_79 : decode cX9_lucky 79 = .ok (.iload_n 1, 1) := by decide +kernel
theorem dX9_lucky_80 : decode cX9_lucky 80 = .ok (.imul, 1) := by decide +kernel
theorem dX9_lucky_81 : decode cX9_lucky 81 = .ok (.aload_n 0, 1) := by decide +kernel
theorem dX9_lucky_82 : decode cX9_lucky 82 = .ok (.getfield 13, 3) := by decide +kernel
theorem dX9_lucky_85 : decode cX9_lucky 85 = .ok (.iload_n 1, 1) := by decide +kernel
theorem dX9_lucky_86 : decode cX9_lucky 86 = .ok (.iaload, 1) := by decide +kernel
theorem dX9_lucky_87 : decode cX9_lucky 87 = .ok (.iadd, 1) := by decide +kernel
theorem dX9_lucky_88 : decode cX9_lucky 88 = .ok (.iconst 1, 1) := by decide +kernel
theorem dX9_lucky_89 : decode cX9_lucky 89 = .ok (.isub, 1) := by decide +kernel
theorem dX9_lucky_90 : decode cX9_lucky 90 = .ok (.if_icmp .ge 65, 3) := by decide +kernel
theorem dX9_lucky_93 : decode cX9_lucky 93 = .ok (.aload_n 0, 1) := by decide +kernel
theorem dX9_lucky_94 : decode cX9_lucky 94 = .ok (.iload 5, 2) := by decide +kernel
theorem dX9_lucky_96 : decode cX9_lucky 96 = .ok (.iconst 0, 1) := by decide +kernel
theorem dX9_lucky_97 : decode cX9_lucky 97 = .ok (.invokevirtual 173, 3) := by decide +kernel
theorem dX9_lucky_100 : decode cX9_lucky 100 = .ok (.iload_n 2, 1) := by decide +kernel
theorem dX9_lucky_101 : decode cX9_lucky 101 = .ok (.if_icmp .eq 17, 3) := by decide +kernel
theorem dX9_lucky_104 : decode cX9_lucky 104 = .ok (.aload_n 0, 1) := by decide +kernel
theorem dX9_lucky_105 : decode cX9_lucky 105 = .ok (.iload 5, 2) := by decide +kernel
theorem dX9_lucky_107 : decode cX9_lucky 107 = .ok (.iconst 1, 1) := by decide +kernel
theorem dX9_lucky_108 : decode cX9_lucky 108 = .ok (.invokevirtual 173, 3) := by decide +kernel
theorem dX9_lucky_111 : decode cX9_lucky 111 = .ok (.iload_n 2, 1) := by decide +kernel
theorem dX9_lucky_112 : decode cX9_lucky 112 = .ok (.if_icmp .eq 6, 3) := by decide +kernel
theorem dX9_lucky_115 : decode cX9_lucky 115 = .ok (.goto 34, 3) := by decide +kernel
theorem dX9_lucky_118 : decode cX9_lucky 118 = .ok (.aload_n 0, 1) := by decide +kernel
theorem dX9_lucky_119 : decode cX9_lucky 119 = .ok (.getfield 38, 3) := by decide +kernel
theorem dX9_lucky_122 : decode cX9_lucky 122 = .ok (.iload 5, 2) := by decide +kernel
theorem dX9_lucky_124 : decode cX9_lucky 124 = .ok (.iaload, 1) := by decide +kernel
theorem dX9_lucky_125 : decode cX9_lucky 125 = .ok (.ifCond .gt 21, 3) := by decide +kernel
theorem dX9_lucky_128 : decode cX9_lucky 128 = .ok (.aload_n 0, 1) := by decide +kernel
theorem dX9_lucky_129 : decode cX9_lucky 129 = .ok (.iload 5, 2) := by decide +kernel
theorem dX9_lucky_131 : decode cX9_lucky 131 = .ok (.invokevirtual 161, 3) := by decide +kernel
theorem dX9_lucky_134 : decode cX9_lucky 134 = .ok (.ifCond .eq 15, 3) := by decide +kernel
theorem dX9_lucky_137 : decode cX9_lucky 137 = .ok (.aload_n 0, 1) := by decide +kernel
theorem dX9_lucky_138 : decode cX9_lucky 138 = .ok (.iload 5, 2) := by decide +kernel
theorem dX9_lucky_140 : decode cX9_lucky 140 = .ok (.invokevirtual 176, 3) := by decide +kernel
theorem dX9_lucky_143 : decode cX9_lucky 143 = .ok (.ifCond .ne 6, 3) := by decide +kernel
theorem dX9_lucky_146 : decode cX9_lucky 146 = .ok (.bipush (-7), 2) := by decide +kernel
theorem dX9_lucky_148 : decode cX9_lucky 148 = .ok (.ireturn, 1) := by decide +kernel
theorem dX9_lucky_149 : decode cX9_lucky 149 = .ok (.iinc 5 1, 3) := by decide +kernel
theorem dX9_lucky_152 : decode cX9_lucky 152 = .ok (.goto (-77), 3) := by decide +kernel
theorem dX9_lucky_155 : decode cX9_lucky 155 = .ok (.aload_n 0, 1) := by decide +kernel
theorem dX9_lucky_156 : decode cX9_lucky 156 = .ok (.iload_n 1, 1) := by decide +kernel
theorem dX9_lucky_157 : decode cX9_lucky 157 = .ok (.iload 4, 2) := by decide +kernel
theorem dX9_lucky_159 : decode cX9_lucky 159 = .ok (.iload_n 3, 1) := by decide +kernel
theorem dX9_lucky_160 : decode cX9_lucky 160 = .ok (.invokevirtual 131, 3) := by decide +kernel
theorem dX9_lucky_163 : decode cX9_lucky 163 = .ok (.aload_n 0, 1) := by decide +kernel
theorem dX9_lucky_164 : decode cX9_lucky 164 = .ok (.getfield 35, 3) := by decide +kernel
theorem dX9_lucky_167 : decode cX9_lucky 167 = .ok (.bipush 40, 2) := by decide +kernel
theorem dX9_lucky_169 : decode cX9_lucky 169 = .ok (.iload_n 1, 1) := by decide +kernel
theorem dX9_lucky_170 : decode cX9_lucky 170 = .ok (.imul, 1) := by decide +kernel
theorem dX9_lucky_171 : decode cX9_lucky 171 = .ok (.iload_n 3, 1) := by decide +kernel
theorem dX9_lucky_172 : decode cX9_lucky 172 = .ok (.iadd, 1) := by decide +kernel
theorem dX9_lucky_173 : decode cX9_lucky 173 = .ok (.iconst 1, 1) := by decide +kernel
theorem dX9_lucky_174 : decode cX9_lucky 174 = .ok (.bastore, 1) := by decide +kernel
theorem dX9_lucky_175 : decode cX9_lucky 175 = .ok (.iconst 1, 1) := by decide +kernel
theorem dX9_lucky_176 : decode cX9_lucky 176 = .ok (.ireturn, 1) := by decide +kernel
theorem dX9_isMatch_0 : decode cX9_isMatch 0 = .ok (.iload_n 1, 1) := by decide +kernel
theorem dX9_isMatch_1 : decode cX9_isMatch 1 = .ok (.ifCond .lt 48, 3) := by decide +kernel
theorem dX9_isMatch_4 : decode cX9_isMatch 4 = .ok (.aload_n 0, 1) := by decide +kernel
theorem dX9_isMatch_5 : decode cX9_isMatch 5 = .ok (.iload_n 1, 1) := by decide +kernel
theorem dX9_isMatch_6 : decode cX9_isMatch 6 = .ok (.bipush 16, 2) := by decide +kernel
theorem dX9_isMatch_8 : decode cX9_isMatch 8 = .ok (.idiv, 1) := by decide +kernel
theorem dX9_isMatch_9 : decode cX9_isMatch 9 = .ok (.invokevirtual 123, 3) := by decide +kernel
theorem dX9_isMatch_12 : decode cX9_isMatch 12 = .ok (.ifCond .eq 37, 3) := by decide +kernel
theorem dX9_isMatch_15 : decode cX9_isMatch 15 = .ok (.aload_n 0, 1) := by decide +kernel
theorem dX9_isMatch_16 : decode cX9_isMatch 16 = .ok (.getfield 28, 3) := by decide +kernel
theorem dX9_isMatch_19 : decode cX9_isMatch 19 = .ok (.iload_n 1, 1) := by decide +kernel
theorem dX9_isMatch_20 : decode cX9_isMatch 20 = .ok (.bipush 16, 2) := by decide +kernel
theorem dX9_isMatch_22 : decode cX9_isMatch 22 = .ok (.idiv, 1) := by decide +kernel
theorem dX9_isMatch_23 : decode cX9_isMatch 23 = .ok (.baload, 1) := by decide +kernel
theorem dX9_isMatch_24 : decode cX9_isMatch 24 = .ok (.ifCond .eq 25, 3) := by decide +kernel
theorem dX9_isMatch_27 : decode cX9_isMatch 27 = .ok (.iload_n 1, 1) := by decide +kernel
theorem dX9_isMatch_28 : decode cX9_isMatch 28 = .ok (.bipush 16, 2) := by decide +kernel
theorem dX9_isMatch_30 : decode cX9_isMatch 30 = .ok (.irem, 1) := by decide +kernel
theorem dX9_isMatch_31 : decode cX9_isMatch 31 = .ok (.aload_n 0, 1) := by decide +kernel
theorem dX9_isMatch_32 : decode cX9_isMatch 32 = .ok (.getfield 13, 3) := by decide +kernel
theorem dX9_isMatch_35 : decode cX9_isMatch 35 = .ok (.iload_n 1, 1) := by decide +kernel
theorem dX9_isMatch_36 : decode cX9_isMatch 36 = .ok (.bipush 16, 2) := by decide +kernel
theorem dX9_isMatch_38 : decode cX9_isMatch 38 = .ok (.idiv, 1) := by decide +kernel
theorem dX9_isMatch_39 : decode cX9_isMatch 39 = .ok (.iaload, 1) := by decide +kernel
theorem dX9_isMatch_40 : decode cX9_isMatch 40 = .ok (.iconst 1, 1) := by decide +kernel
theorem dX9_isMatch_41 : decode cX9_isMatch 41 = .ok (.isub, 1) := by decide +kernel
theorem dX9_isMatch_42 : decode cX9_isMatch 42 = .ok (.if_icmp .ge 7, 3) := by decide +kernel
theorem dX9_isMatch_45 : decode cX9_isMatch 45 = .ok (.iconst 1, 1) := by decide +kernel
theorem dX9_isMatch_46 : decode cX9_isMatch 46 = .ok (.goto 4, 3) := by decide +kernel
theorem dX9_isMatch_49 : decode cX9_isMatch 49 = .ok (.iconst 0, 1) := by decide +kernel
theorem dX9_isMatch_50 : decode cX9_isMatch 50 = .ok (.ireturn, 1) := by decide +kernel
theorem dX9_feeds_0 : decode cX9_feeds 0 = .ok (.iload_n 1, 1) := by decide +kernel
theorem dX9_feeds_1 : decode cX9_feeds 1 = .ok (.bipush 16, 2) := by decide +kernel
theorem dX9_feeds_3 : decode cX9_feeds 3 = .ok (.idiv, 1) := by decide +kernel
theorem dX9_feeds_4 : decode cX9_feeds 4 = .ok (.istore_n 3, 1) := by decide +kernel
theorem dX9_feeds_5 : decode cX9_feeds 5 = .ok (.aload_n 0, 1) := by decide +kernel
theorem dX9_feeds_6 : decode cX9_feeds 6 = .ok (.iload_n 3, 1) := by decide +kernel
theorem dX9_feeds_7 : decode cX9_feeds 7 = .ok (.iload_n 1, 1) := by decide +kernel
theorem dX9_feeds_8 : decode cX9_feeds 8 = .ok (.bipush 16, 2) := by decide +kernel
theorem dX9_feeds_10 : decode cX9_feeds 10 = .ok (.irem, 1) := by decide +kernel
theorem dX9_feeds_11 : decode cX9_feeds 11 = .ok (.invokevirtual 167, 3) := by decide +kernel
theorem dX9_feeds_14 : decode cX9_feeds 14 = .ok (.istore 4, 2) := by decide +kernel
theorem dX9_feeds_16 : decode cX9_feeds 16 = .ok (.iload_n 1, 1) := by decide +kernel
theorem dX9_feeds_17 : decode cX9_feeds 17 = .ok (.bipush 16, 2) := by decide +kernel
theorem dX9_feeds_19 : decode cX9_feeds 19 = .ok (.irem, 1) := by decide +kernel
theorem dX9_feeds_20 : decode cX9_feeds 20 = .ok (.aload_n 0, 1) := by decide +kernel
theorem dX9_feeds_21 : decode cX9_feeds 21 = .ok (.iload_n 3, 1) := by decide +kernel
theorem dX9_feeds_22 : decode cX9_feeds 22 = .ok (.iload 4, 2) := by decide +kernel
theorem dX9_feeds_24 : decode cX9_feeds 24 = .ok (.invokevirtual 179, 3) := by decide +kernel
theorem dX9_feeds_27 : decode cX9_feeds 27 = .ok (.isub, 1) := by decide +kernel
theorem dX9_feeds_28 : decode cX9_feeds 28 = .ok (.istore 5, 2) := by decide +kernel
theorem dX9_feeds_30 : decode cX9_feeds 30 = .ok (.bipush 16, 2) := by decide +kernel
theorem dX9_feeds_32 : decode cX9_feeds 32 = .ok (.iload_n 3, 1) := by decide +kernel
theorem dX9_feeds_33 : decode cX9_feeds 33 = .ok (.imul, 1) := by decide +kernel
theorem dX9_feeds_34 : decode cX9_feeds 34 = .ok (.aload_n 0, 1) := by decide +kernel
theorem dX9_feeds_35 : decode cX9_feeds 35 = .ok (.iload_n 3, 1) := by decide +kernel
theorem dX9_feeds_36 : decode cX9_feeds 36 = .ok (.iload 4, 2) := by decide +kernel
theorem dX9_feeds_38 : decode cX9_feeds 38 = .ok (.iconst 1, 1) := by decide +kernel
theorem dX9_feeds_39 : decode cX9_feeds 39 = .ok (.isub, 1) := by decide +kernel
theorem dX9_feeds_40 : decode cX9_feeds 40 = .ok (.invokevirtual 179, 3) := by decide +kernel
theorem dX9_feeds_43 : decode cX9_feeds 43 = .ok (.iadd, 1) := by decide +kernel
theorem dX9_feeds_44 : decode cX9_feeds 44 = .ok (.iconst 2, 1) := by decide +kernel
theorem dX9_feeds_45 : decode cX9_feeds 45 = .ok (.iload 5, 2) := by decide +kernel
theorem dX9_feeds_47 : decode cX9_feeds 47 = .ok (.imul, 1) := by decide +kernel
theorem dX9_feeds_48 : decode cX9_feeds 48 = .ok (.iadd, 1) := by decide +kernel
theorem dX9_feeds_49 : decode cX9_feeds 49 = .ok (.iload_n 2, 1) := by decide +kernel
theorem dX9_feeds_50 : decode cX9_feeds 50 = .ok (.iadd, 1) := by decide +kernel
theorem dX9_feeds_51 : decode cX9_feeds 51 = .ok (.ireturn, 1) := by decide +kernel
theorem dX9_fedBy_0 : decode cX9_fedBy 0 = .ok (.iload_n 1, 1) := by decide +kernel
theorem dX9_fedBy_1 : decode cX9_fedBy 1 = .ok (.bipush 16, 2) := by decide +kernel
theorem dX9_fedBy_3 : decode cX9_fedBy 3 = .ok (.idiv, 1) := by decide +kernel
theorem dX9_fedBy_4 : decode cX9_fedBy 4 = .ok (.istore_n 2, 1) := by decide +kernel
theorem dX9_fedBy_5 : decode cX9_fedBy 5 = .ok (.aload_n 0, 1) := by decide +kernel
theorem dX9_fedBy_6 : decode cX9_fedBy 6 = .ok (.iload_n 2, 1) := by decide +kernel
theorem dX9_fedBy_7 : decode cX9_fedBy 7 = .ok (.iload_n 1, 1) := by decide +kernel
theorem dX9_fedBy_8 : decode cX9_fedBy 8 = .ok (.bipush 16, 2) := by decide +kernel
theorem dX9_fedBy_10 : decode cX9_fedBy 10 = .ok (.irem, 1) := by decide +kernel
theorem dX9_fedBy_11 : decode cX9_fedBy 11 = .ok (.invokevirtual 167, 3) := by decide +kernel
theorem dX9_fedBy_14 : decode cX9_fedBy 14 = .ok (.istore_n 3, 1) := by decide +kernel
theorem dX9_fedBy_15 : decode cX9_fedBy 15 = .ok (.iload_n 3, 1) := by decide +kernel
theorem dX9_fedBy_16 : decode cX9_fedBy 16 = .ok (.aload_n 0, 1) := by decide +kernel
theorem dX9_fedBy_17 : decode cX9_fedBy 17 = .ok (.iload_n 2, 1) := by decide +kernel
theorem dX9_fedBy_18 : decode cX9_fedBy 18 = .ok (.invokevirtual 164, 3) := by decide +kernel
theorem dX9_fedBy_21 : decode cX9_fedBy 21 = .ok (.iconst 1, 1) := by decide +kernel
theorem dX9_fedBy_22 : decode cX9_fedBy 22 = .ok (.isub, 1) := by decide +kernel
theorem dX9_fedBy_23 : decode cX9_fedBy 23 = .ok (.if_icmp .ne 5, 3) := by decide +kernel
theorem dX9_fedBy_26 : decode cX9_fedBy 26 = .ok (.iconst (-1), 1) := by decide +kernel
theorem dX9_fedBy_27 : decode cX9_fedBy 27 = .ok (.ireturn, 1) := by decide +kernel
theorem dX9_fedBy_28 : decode cX9_fedBy 28 = .ok (.bipush 16, 2) := by decide +kernel
theorem dX9_fedBy_30 : decode cX9_fedBy 30 = .ok (.iload_n 2, 1) := by decide +kernel
theorem dX9_fedBy_31 : decode cX9_fedBy 31 = .ok (.imul, 1) := by decide +kernel
theorem dX9_fedBy_32 : decode cX9_fedBy 32 = .ok (.aload_n 0, 1) := by decide +kernel
theorem dX9_fedBy_33 : decode cX9_fedBy 33 = .ok (.iload_n 2, 1) := by decide +kernel
theorem dX9_fedBy_34 : decode cX9_fedBy 34 = .ok (.iload_n 3, 1) := by decide +kernel
theorem dX9_fedBy_35 : decode cX9_fedBy 35 = .ok (.iconst 1, 1) := by decide +kernel
theorem dX9_fedBy_36 : decode cX9_fedBy 36 = .ok (.iadd, 1) := by decide +kernel
theorem dX9_fedBy_37 : decode cX9_fedBy 37 = .ok (.invokevirtual 179, 3) := by decide +kernel
theorem dX9_fedBy_40 : decode cX9_fedBy 40 = .ok (.iadd, 1) := by decide +kernel
theorem dX9_fedBy_41 : decode cX9_fedBy 41 = .ok (.iload_n 1, 1) := by decide +kernel
theorem dX9_fedBy_42 : decode cX9_fedBy 42 = .ok (.bipush 16, 2) := by decide +kernel
theorem dX9_fedBy_44 : decode cX9_fedBy 44 = .ok (.irem, 1) := by decide +kernel
theorem dX9_fedBy_45 : decode cX9_fedBy 45 = .ok (.aload_n 0, 1) := by decide +kernel
theorem dX9_fedBy_46 : decode cX9_fedBy 46 = .ok (.iload_n 2, 1) := by decide +kernel
theorem dX9_fedBy_47 : decode cX9_fedBy 47 = .ok (.iload_n 3, 1) := by decide +kernel
theorem dX9_fedBy_48 : decode cX9_fedBy 48 = .ok (.invokevirtual 179, 3) := by decide +kernel
theorem dX9_fedBy_51 : decode cX9_fedBy 51 = .ok (.isub, 1) := by decide +kernel
theorem dX9_fedBy_52 : decode cX9_fedBy 52 = .ok (.iconst 2, 1) := by decide +kernel
theorem dX9_fedBy_53 : decode cX9_fedBy 53 = .ok (.idiv, 1) := by decide +kernel
theorem dX9_fedBy_54 : decode cX9_fedBy 54 = .ok (.iadd, 1) := by decide +kernel
theorem dX9_fedBy_55 : decode cX9_fedBy 55 = .ok (.ireturn, 1) := by decide +kernel
theorem dX9_sideOf_0 : decode cX9_sideOf 0 = .ok (.iload_n 1, 1) := by decide +kernel
theorem dX9_sideOf_1 : decode cX9_sideOf 1 = .ok (.bipush 16, 2) := by decide +kernel
theorem dX9_sideOf_3 : decode cX9_sideOf 3 = .ok (.idiv, 1) := by decide +kernel
theorem dX9_sideOf_4 : decode cX9_sideOf 4 = .ok (.istore_n 3, 1) := by decide +kernel
theorem dX9_sideOf_5 : decode cX9_sideOf 5 = .ok (.aload_n 0, 1) := by decide +kernel
theorem dX9_sideOf_6 : decode cX9_sideOf 6 = .ok (.iload_n 3, 1) := by decide +kernel
theorem dX9_sideOf_7 : decode cX9_sideOf 7 = .ok (.iload_n 1, 1) := by decide +kernel
theorem dX9_sideOf_8 : decode cX9_sideOf 8 = .ok (.bipush 16, 2) := by decide +kernel
theorem dX9_sideOf_10 : decode cX9_sideOf 10 = .ok (.irem, 1) := by decide +kernel
theorem dX9_sideOf_11 : decode cX9_sideOf 11 = .ok (.invokevirtual 167, 3) := by decide +kernel
theorem dX9_sideOf_14 : decode cX9_sideOf 14 = .ok (.ifCond .ne 17, 3) := by decide +kernel
theorem dX9_sideOf_17 : decode cX9_sideOf 17 = .ok (.aload_n 0, 1) := by decide +kernel
theorem dX9_sideOf_18 : decode cX9_sideOf 18 = .ok (.iload_n 3, 1) := by decide +kernel
theorem dX9_sideOf_19 : decode cX9_sideOf 19 = .ok (.iconst 2, 1) := by decide +kernel
theorem dX9_sideOf_20 : decode cX9_sideOf 20 = .ok (.iload_n 1, 1) := by decide +kernel
theorem dX9_sideOf_21 : decode cX9_sideOf 21 = .ok (.bipush 16, 2) := by decide +kernel
theorem dX9_sideOf_23 : decode cX9_sideOf 23 = .ok (.irem, 1) := by decide +kernel
theorem dX9_sideOf_24 : decode cX9_sideOf 24 = .ok (.imul, 1) := by decide +kernel
theorem dX9_sideOf_25 : decode cX9_sideOf 25 = .ok (.iload_n 2, 1) := by decide +kernel
theorem dX9_sideOf_26 : decode cX9_sideOf 26 = .ok (.iadd, 1) := by decide +kernel
theorem dX9_sideOf_27 : decode cX9_sideOf 27 = .ok (.invokevirtual 143, 3) := by decide +kernel
theorem dX9_sideOf_30 : decode cX9_sideOf 30 = .ok (.ireturn, 1) := by decide +kernel
theorem dX9_sideOf_31 : decode cX9_sideOf 31 = .ok (.aload_n 0, 1) := by decide +kernel
theorem dX9_sideOf_32 : decode cX9_sideOf 32 = .ok (.iload_n 1, 1) := by decide +kernel
theorem dX9_sideOf_33 : decode cX9_sideOf 33 = .ok (.iload_n 2, 1) := by decide +kernel
theorem dX9_sideOf_34 : decode cX9_sideOf 34 = .ok (.invokevirtual 182, 3) := by decide +kernel
theorem dX9_sideOf_37 : decode cX9_sideOf 37 = .ok (.istore 4, 2) := by decide +kernel
theorem dX9_sideOf_39 : decode cX9_sideOf 39 = .ok (.aload_n 0, 1) := by decide +kernel
theorem dX9_sideOf_40 : decode cX9_sideOf 40 = .ok (.iload 4, 2) := by decide +kernel
theorem dX9_sideOf_42 : decode cX9_sideOf 42 = .ok (.invokevirtual 185, 3) := by decide +kernel
theorem dX9_sideOf_45 : decode cX9_sideOf 45 = .ok (.istore 5, 2) := by decide +kernel
theorem dX9_sideOf_47 : decode cX9_sideOf 47 = .ok (.iload 5, 2) := by decide +kernel
theorem dX9_sideOf_49 : decode cX9_sideOf 49 = .ok (.ifCond .ge 8, 3) := by decide +kernel
theorem dX9_sideOf_52 : decode cX9_sideOf 52 = .ok (.bipush (-2), 2) := by decide +kernel
theorem dX9_sideOf_54 : decode cX9_sideOf 54 = .ok (.goto 11, 3) := by decide +kernel
theorem dX9_sideOf_57 : decode cX9_sideOf 57 = .ok (.aload_n 0, 1) := by decide +kernel
theorem dX9_sideOf_58 : decode cX9_sideOf 58 = .ok (.iload 4, 2) := by decide +kernel
theorem dX9_sideOf_60 : decode cX9_sideOf 60 = .ok (.iload 5, 2) := by decide +kernel
theorem dX9_sideOf_62 : decode cX9_sideOf 62 = .ok (.invokevirtual 173, 3) := by decide +kernel
theorem dX9_sideOf_65 : decode cX9_sideOf 65 = .ok (.ireturn, 1) := by decide +kernel
theorem dX9_isOfBye_0 : decode cX9_isOfBye 0 = .ok (.aload_n 0, 1) := by decide +kernel
