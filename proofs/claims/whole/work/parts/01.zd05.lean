theorem dX9_entries_159 : decode cX9_entries 159 = .ok (.isub, 1) := by decide +kernel
theorem dX9_entries_160 : decode cX9_entries 160 = .ok (.baload, 1) := by decide +kernel
theorem dX9_entries_161 : decode cX9_entries 161 = .ok (.ifCond .eq 7, 3) := by decide +kernel
theorem dX9_entries_164 : decode cX9_entries 164 = .ok (.iconst 1, 1) := by decide +kernel
theorem dX9_entries_165 : decode cX9_entries 165 = .ok (.goto 4, 3) := by decide +kernel
theorem dX9_entries_168 : decode cX9_entries 168 = .ok (.iconst 0, 1) := by decide +kernel
theorem dX9_entries_169 : decode cX9_entries 169 = .ok (.istore 11, 2) := by decide +kernel
theorem dX9_entries_171 : decode cX9_entries 171 = .ok (.iload 11, 2) := by decide +kernel
theorem dX9_entries_173 : decode cX9_entries 173 = .ok (.ifCond .ne 6, 3) := by decide +kernel
theorem dX9_entries_176 : decode cX9_entries 176 = .ok (.goto 64, 3) := by decide +kernel
theorem dX9_entries_179 : decode cX9_entries 179 = .ok (.iload 10, 2) := by decide +kernel
theorem dX9_entries_181 : decode cX9_entries 181 = .ok (.istore 12, 2) := by decide +kernel
theorem dX9_entries_183 : decode cX9_entries 183 = .ok (.iload 12, 2) := by decide +kernel
theorem dX9_entries_185 : decode cX9_entries 185 = .ok (.iconst 1, 1) := by decide +kernel
theorem dX9_entries_186 : decode cX9_entries 186 = .ok (.iadd, 1) := by decide +kernel
theorem dX9_entries_187 : decode cX9_entries 187 = .ok (.iload 8, 2) := by decide +kernel
theorem dX9_entries_189 : decode cX9_entries 189 = .ok (.if_icmp .ge 28, 3) := by decide +kernel
theorem dX9_entries_192 : decode cX9_entries 192 = .ok (.aload_n 0, 1) := by decide +kernel
theorem dX9_entries_193 : decode cX9_entries 193 = .ok (.getfield 147, 3) := by decide +kernel
theorem dX9_entries_196 : decode cX9_entries 196 = .ok (.sipush 240, 3) := by decide +kernel
theorem dX9_entries_199 : decode cX9_entries 199 = .ok (.iload 5, 2) := by decide +kernel
theorem dX9_entries_201 : decode cX9_entries 201 = .ok (.imul, 1) := by decide +kernel
theorem dX9_entries_202 : decode cX9_entries 202 = .ok (.iload 12, 2) := by decide +kernel
theorem dX9_entries_204 : decode cX9_entries 204 = .ok (.iadd, 1) := by decide +kernel
theorem dX9_entries_205 : decode cX9_entries 205 = .ok (.iconst 1, 1) := by decide +kernel
theorem dX9_entries_206 : decode cX9_entries 206 = .ok (.iadd, 1) := by decide +kernel
theorem dX9_entries_207 : decode cX9_entries 207 = .ok (.baload, 1) := by decide +kernel
theorem dX9_entries_208 : decode cX9_entries 208 = .ok (.ifCond .ne 9, 3) := by decide +kernel
theorem dX9_entries_211 : decode cX9_entries 211 = .ok (.iinc 12 1, 3) := by decide +kernel
theorem dX9_entries_214 : decode cX9_entries 214 = .ok (.goto (-31), 3) := by decide +kernel
theorem dX9_entries_217 : decode cX9_entries 217 = .ok (.iload 4, 2) := by decide +kernel
theorem dX9_entries_219 : decode cX9_entries 219 = .ok (.ifCond .eq 18, 3) := by decide +kernel
theorem dX9_entries_222 : decode cX9_entries 222 = .ok (.aload_n 0, 1) := by decide +kernel
theorem dX9_entries_223 : decode cX9_entries 223 = .ok (.iload_n 3, 1) := by decide +kernel
theorem dX9_entries_224 : decode cX9_entries 224 = .ok (.iconst 3, 1) := by decide +kernel
theorem dX9_entries_225 : decode cX9_entries 225 = .ok (.iload 9, 2) := by decide +kernel
theorem dX9_entries_227 : decode cX9_entries 227 = .ok (.imul, 1) := by decide +kernel
theorem dX9_entries_228 : decode cX9_entries 228 = .ok (.iadd, 1) := by decide +kernel
theorem dX9_entries_229 : decode cX9_entries 229 = .ok (.iload_n 2, 1) := by decide +kernel
theorem dX9_entries_230 : decode cX9_entries 230 = .ok (.iload 10, 2) := by decide +kernel
theorem dX9_entries_232 : decode cX9_entries 232 = .ok (.iload 12, 2) := by decide +kernel
theorem dX9_entries_234 : decode cX9_entries 234 = .ok (.invokevirtual 303, 3) := by decide +kernel
theorem dX9_entries_237 : decode cX9_entries 237 = .ok (.iinc 9 1, 3) := by decide +kernel
theorem dX9_entries_240 : decode cX9_entries 240 = .ok (.iinc 10 1, 3) := by decide +kernel
theorem dX9_entries_243 : decode cX9_entries 243 = .ok (.goto (-127), 3) := by decide +kernel
theorem dX9_entries_246 : decode cX9_entries 246 = .ok (.aload_n 0, 1) := by decide +kernel
theorem dX9_entries_247 : decode cX9_entries 247 = .ok (.getfield 140, 3) := by decide +kernel
theorem dX9_entries_250 : decode cX9_entries 250 = .ok (.iload 5, 2) := by decide +kernel
theorem dX9_entries_252 : decode cX9_entries 252 = .ok (.iaload, 1) := by decide +kernel
theorem dX9_entries_253 : decode cX9_entries 253 = .ok (.iconst (-1), 1) := by decide +kernel
theorem dX9_entries_254 : decode cX9_entries 254 = .ok (.if_icmp .eq 6, 3) := by decide +kernel
theorem dX9_entries_257 : decode cX9_entries 257 = .ok (.iload 9, 2) := by decide +kernel
theorem dX9_entries_259 : decode cX9_entries 259 = .ok (.ireturn, 1) := by decide +kernel
theorem dX9_entries_260 : decode cX9_entries 260 = .ok (.iload 4, 2) := by decide +kernel
theorem dX9_entries_262 : decode cX9_entries 262 = .ok (.ifCond .eq 19, 3) := by decide +kernel
theorem dX9_entries_265 : decode cX9_entries 265 = .ok (.aload_n 0, 1) := by decide +kernel
theorem dX9_entries_266 : decode cX9_entries 266 = .ok (.iload_n 3, 1) := by decide +kernel
theorem dX9_entries_267 : decode cX9_entries 267 = .ok (.iconst 3, 1) := by decide +kernel
theorem dX9_entries_268 : decode cX9_entries 268 = .ok (.iload 9, 2) := by decide +kernel
theorem dX9_entries_270 : decode cX9_entries 270 = .ok (.imul, 1) := by decide +kernel
theorem dX9_entries_271 : decode cX9_entries 271 = .ok (.iadd, 1) := by decide +kernel
theorem dX9_entries_272 : decode cX9_entries 272 = .ok (.iload_n 2, 1) := by decide +kernel
theorem dX9_entries_273 : decode cX9_entries 273 = .ok (.iload 8, 2) := by decide +kernel
theorem dX9_entries_275 : decode cX9_entries 275 = .ok (.sipush 255, 3) := by decide +kernel
theorem dX9_entries_278 : decode cX9_entries 278 = .ok (.invokevirtual 303, 3) := by decide +kernel
theorem dX9_entries_281 : decode cX9_entries 281 = .ok (.iload 9, 2) := by decide +kernel
theorem dX9_entries_283 : decode cX9_entries 283 = .ok (.iconst 1, 1) := by decide +kernel
theorem dX9_entries_284 : decode cX9_entries 284 = .ok (.iadd, 1) := by decide +kernel
theorem dX9_entries_285 : decode cX9_entries 285 = .ok (.ireturn, 1) := by decide +kernel
theorem dX9_putRun_0 : decode cX9_putRun 0 = .ok (.aload_n 0, 1) := by decide +kernel
theorem dX9_putRun_1 : decode cX9_putRun 1 = .ok (.getfield 207, 3) := by decide +kernel
theorem dX9_putRun_4 : decode cX9_putRun 4 = .ok (.iload_n 1, 1) := by decide +kernel
theorem dX9_putRun_5 : decode cX9_putRun 5 = .ok (.iload_n 2, 1) := by decide +kernel
theorem dX9_putRun_6 : decode cX9_putRun 6 = .ok (.bipush 63, 2) := by decide +kernel
theorem dX9_putRun_8 : decode cX9_putRun 8 = .ok (.iand, 1) := by decide +kernel
theorem dX9_putRun_9 : decode cX9_putRun 9 = .ok (.sipush 128, 3) := by decide +kernel
theorem dX9_putRun_12 : decode cX9_putRun 12 = .ok (.iadd, 1) := by decide +kernel
theorem dX9_putRun_13 : decode cX9_putRun 13 = .ok (.iastore, 1) := by decide +kernel
theorem dX9_putRun_14 : decode cX9_putRun 14 = .ok (.aload_n 0, 1) := by decide +kernel
theorem dX9_putRun_15 : decode cX9_putRun 15 = .ok (.getfield 207, 3) := by decide +kernel
theorem dX9_putRun_18 : decode cX9_putRun 18 = .ok (.iload_n 1, 1) := by decide +kernel
theorem dX9_putRun_19 : decode cX9_putRun 19 = .ok (.iconst 1, 1) := by decide +kernel
theorem dX9_putRun_20 : decode cX9_putRun 20 = .ok (.iadd, 1) := by decide +kernel
theorem dX9_putRun_21 : decode cX9_putRun 21 = .ok (.iload_n 3, 1) := by decide +kernel
theorem dX9_putRun_22 : decode cX9_putRun 22 = .ok (.iastore, 1) := by decide +kernel
theorem dX9_putRun_23 : decode cX9_putRun 23 = .ok (.aload_n 0, 1) := by decide +kernel
theorem dX9_putRun_24 : decode cX9_putRun 24 = .ok (.getfield 207, 3) := by decide +kernel
theorem dX9_putRun_27 : decode cX9_putRun 27 = .ok (.iload_n 1, 1) := by decide +kernel
theorem dX9_putRun_28 : decode cX9_putRun 28 = .ok (.iconst 2, 1) := by decide +kernel
theorem dX9_putRun_29 : decode cX9_putRun 29 = .ok (.iadd, 1) := by decide +kernel
theorem dX9_putRun_30 : decode cX9_putRun 30 = .ok (.iload 4, 2) := by decide +kernel
theorem dX9_putRun_32 : decode cX9_putRun 32 = .ok (.iastore, 1) := by decide +kernel
theorem dX9_putRun_33 : decode cX9_putRun 33 = .ok (.return_, 1) := by decide +kernel
theorem dX9_isEmpty_0 : decode cX9_isEmpty 0 = .ok (.bipush 32, 2) := by decide +kernel
theorem dX9_isEmpty_2 : decode cX9_isEmpty 2 = .ok (.iload_n 1, 1) := by decide +kernel
theorem dX9_isEmpty_3 : decode cX9_isEmpty 3 = .ok (.imul, 1) := by decide +kernel
theorem dX9_isEmpty_4 : decode cX9_isEmpty 4 = .ok (.iload_n 2, 1) := by decide +kernel
theorem dX9_isEmpty_5 : decode cX9_isEmpty 5 = .ok (.bipush 31, 2) := by decide +kernel
theorem dX9_isEmpty_7 : decode cX9_isEmpty 7 = .ok (.iand, 1) := by decide +kernel
theorem dX9_isEmpty_8 : decode cX9_isEmpty 8 = .ok (.iadd, 1) := by decide +kernel
theorem dX9_isEmpty_9 : decode cX9_isEmpty 9 = .ok (.istore_n 3, 1) := by decide +kernel
theorem dX9_isEmpty_10 : decode cX9_isEmpty 10 = .ok (.iconst 1, 1) := by decide +kernel
theorem dX9_isEmpty_11 : decode cX9_isEmpty 11 = .ok (.istore 4, 2) := by decide +kernel
theorem dX9_isEmpty_13 : decode cX9_isEmpty 13 = .ok (.iconst 0, 1) := by decide +kernel
theorem dX9_isEmpty_14 : decode cX9_isEmpty 14 = .ok (.istore 5, 2) := by decide +kernel
theorem dX9_isEmpty_16 : decode cX9_isEmpty 16 = .ok (.iload 5, 2) := by decide +kernel
theorem dX9_isEmpty_18 : decode cX9_isEmpty 18 = .ok (.sipush 240, 3) := by decide +kernel
theorem dX9_isEmpty_21 : decode cX9_isEmpty 21 = .ok (.if_icmp .ge 37, 3) := by decide +kernel
theorem dX9_isEmpty_24 : decode cX9_isEmpty 24 = .ok (.iload 4, 2) := by decide +kernel
theorem dX9_isEmpty_26 : decode cX9_isEmpty 26 = .ok (.ifCond .eq 23, 3) := by decide +kernel
theorem dX9_isEmpty_29 : decode cX9_isEmpty 29 = .ok (.aload_n 0, 1) := by decide +kernel
theorem dX9_isEmpty_30 : decode cX9_isEmpty 30 = .ok (.getfield 147, 3) := by decide +kernel
theorem dX9_isEmpty_33 : decode cX9_isEmpty 33 = .ok (.sipush 240, 3) := by decide +kernel
theorem dX9_isEmpty_36 : decode cX9_isEmpty 36 = .ok (.iload_n 3, 1) := by decide +kernel
theorem dX9_isEmpty_37 : decode cX9_isEmpty 37 = .ok (.imul, 1) := by decide +kernel
theorem dX9_isEmpty_38 : decode cX9_isEmpty 38 = .ok (.iload 5, 2) := by decide +kernel
theorem dX9_isEmpty_40 : decode cX9_isEmpty 40 = .ok (.iadd, 1) := by decide +kernel
theorem dX9_isEmpty_41 : decode cX9_isEmpty 41 = .ok (.baload, 1) := by decide +kernel
theorem dX9_isEmpty_42 : decode cX9_isEmpty 42 = .ok (.ifCond .ne 7, 3) := by decide +kernel
theorem dX9_isEmpty_45 : decode cX9_isEmpty 45 = .ok (.iconst 1, 1) := by decide +kernel
theorem dX9_isEmpty_46 : decode cX9_isEmpty 46 = .ok (.goto 4, 3) := by decide +kernel
theorem dX9_isEmpty_49 : decode cX9_isEmpty 49 = .ok (.iconst 0, 1) := by decide +kernel
theorem dX9_isEmpty_50 : decode cX9_isEmpty 50 = .ok (.istore 4, 2) := by decide +kernel
theorem dX9_isEmpty_52 : decode cX9_isEmpty 52 = .ok (.iinc 5 1, 3) := by decide +kernel
theorem dX9_isEmpty_55 : decode cX9_isEmpty 55 = .ok (.goto (-39), 3) := by decide +kernel
theorem dX9_isEmpty_58 : decode cX9_isEmpty 58 = .ok (.iload 4, 2) := by decide +kernel
theorem dX9_isEmpty_60 : decode cX9_isEmpty 60 = .ok (.ireturn, 1) := by decide +kernel
theorem dX9_makeStatus_0 : decode cX9_makeStatus 0 = .ok (.iconst 2, 1) := by decide +kernel
theorem dX9_makeStatus_1 : decode cX9_makeStatus 1 = .ok (.istore_n 3, 1) := by decide +kernel
theorem dX9_makeStatus_2 : decode cX9_makeStatus 2 = .ok (.iconst 0, 1) := by decide +kernel
theorem dX9_makeStatus_3 : decode cX9_makeStatus 3 = .ok (.istore 4, 2) := by decide +kernel
theorem dX9_makeStatus_5 : decode cX9_makeStatus 5 = .ok (.aload_n 0, 1) := by decide +kernel
theorem dX9_makeStatus_6 : decode cX9_makeStatus 6 = .ok (.getfield 113, 3) := by decide +kernel
theorem dX9_makeStatus_9 : decode cX9_makeStatus 9 = .ok (.iload_n 1, 1) := by decide +kernel
theorem dX9_makeStatus_10 : decode cX9_makeStatus 10 = .ok (.iaload, 1) := by decide +kernel
theorem dX9_makeStatus_11 : decode cX9_makeStatus 11 = .ok (.istore 5, 2) := by decide +kernel
theorem dX9_makeStatus_13 : decode cX9_makeStatus 13 = .ok (.aload_n 0, 1) := by decide +kernel
theorem dX9_makeStatus_14 : decode cX9_makeStatus 14 = .ok (.getfield 107, 3) := by decide +kernel
theorem dX9_makeStatus_17 : decode cX9_makeStatus 17 = .ok (.iload_n 1, 1) := by decide +kernel
theorem dX9_makeStatus_18 : decode cX9_makeStatus 18 = .ok (.iaload, 1) := by decide +kernel
theorem dX9_makeStatus_19 : decode cX9_makeStatus 19 = .ok (.istore 6, 2) := by decide +kernel
theorem dX9_makeStatus_21 : decode cX9_makeStatus 21 = .ok (.iload 6, 2) := by decide +kernel
theorem dX9_makeStatus_23 : decode cX9_makeStatus 23 = .ok (.aload_n 0, 1) := by decide +kernel
theorem dX9_makeStatus_24 : decode cX9_makeStatus 24 = .ok (.getfield 113, 3) := by decide +kernel
theorem dX9_makeStatus_27 : decode cX9_makeStatus 27 = .ok (.iload_n 1, 1) := by decide +kernel
theorem dX9_makeStatus_28 : decode cX9_makeStatus 28 = .ok (.iaload, 1) := by decide +kernel
theorem dX9_makeStatus_29 : decode cX9_makeStatus 29 = .ok (.if_icmp .ge 112, 3) := by decide +kernel
theorem dX9_makeStatus_32 : decode cX9_makeStatus 32 = .ok (.iload 5, 2) := by decide +kernel
theorem dX9_makeStatus_34 : decode cX9_makeStatus 34 = .ok (.aload_n 0, 1) := by decide +kernel
theorem dX9_makeStatus_35 : decode cX9_makeStatus 35 = .ok (.getfield 113, 3) := by decide +kernel
theorem dX9_makeStatus_38 : decode cX9_makeStatus 38 = .ok (.iload_n 1, 1) := by decide +kernel
theorem dX9_makeStatus_39 : decode cX9_makeStatus 39 = .ok (.iaload, 1) := by decide +kernel
theorem dX9_makeStatus_40 : decode cX9_makeStatus 40 = .ok (.if_icmp .ne 101, 3) := by decide +kernel
theorem dX9_makeStatus_43 : decode cX9_makeStatus 43 = .ok (.aload_n 0, 1) := by decide +kernel
theorem dX9_makeStatus_44 : decode cX9_makeStatus 44 = .ok (.iload_n 1, 1) := by decide +kernel
theorem dX9_makeStatus_45 : decode cX9_makeStatus 45 = .ok (.iload 6, 2) := by decide +kernel
theorem dX9_makeStatus_47 : decode cX9_makeStatus 47 = .ok (.invokevirtual 306, 3) := by decide +kernel
theorem dX9_makeStatus_50 : decode cX9_makeStatus 50 = .ok (.ifCond .eq 6, 3) := by decide +kernel
theorem dX9_makeStatus_53 : decode cX9_makeStatus 53 = .ok (.goto 82, 3) := by decide +kernel
theorem dX9_makeStatus_56 : decode cX9_makeStatus 56 = .ok (.aload_n 0, 1) := by decide +kernel
theorem dX9_makeStatus_57 : decode cX9_makeStatus 57 = .ok (.iload_n 1, 1) := by decide +kernel
theorem dX9_makeStatus_58 : decode cX9_makeStatus 58 = .ok (.iload 6, 2) := by decide +kernel
theorem dX9_makeStatus_60 : decode cX9_makeStatus 60 = .ok (.iconst 0, 1) := by decide +kernel
theorem dX9_makeStatus_61 : decode cX9_makeStatus 61 = .ok (.iconst 0, 1) := by decide +kernel
theorem dX9_makeStatus_62 : decode cX9_makeStatus 62 = .ok (.invokevirtual 309, 3) := by decide +kernel
theorem dX9_makeStatus_65 : decode cX9_makeStatus 65 = .ok (.istore 7, 2) := by decide +kernel
theorem dX9_makeStatus_67 : decode cX9_makeStatus 67 = .ok (.aload_n 0, 1) := by decide +kernel
theorem dX9_makeStatus_68 : decode cX9_makeStatus 68 = .ok (.iload_n 1, 1) := by decide +kernel
theorem dX9_makeStatus_69 : decode cX9_makeStatus 69 = .ok (.iload 6, 2) := by decide +kernel
theorem dX9_makeStatus_71 : decode cX9_makeStatus 71 = .ok (.invokevirtual 313, 3) := by decide +kernel
theorem dX9_makeStatus_74 : decode cX9_makeStatus 74 = .ok (.ifCond .eq 7, 3) := by decide +kernel
theorem dX9_makeStatus_77 : decode cX9_makeStatus 77 = .ok (.iconst 1, 1) := by decide +kernel
theorem dX9_makeStatus_78 : decode cX9_makeStatus 78 = .ok (.goto 7, 3) := by decide +kernel
theorem dX9_makeStatus_81 : decode cX9_makeStatus 81 = .ok (.iconst 3, 1) := by decide +kernel
theorem dX9_makeStatus_82 : decode cX9_makeStatus 82 = .ok (.iload 7, 2) := by decide +kernel
theorem dX9_makeStatus_84 : decode cX9_makeStatus 84 = .ok (.imul, 1) := by decide +kernel
theorem dX9_makeStatus_85 : decode cX9_makeStatus 85 = .ok (.istore 8, 2) := by decide +kernel
theorem dX9_makeStatus_87 : decode cX9_makeStatus 87 = .ok (.iload 4, 2) := by decide +kernel
theorem dX9_makeStatus_89 : decode cX9_makeStatus 89 = .ok (.iload 7, 2) := by decide +kernel
theorem dX9_makeStatus_91 : decode cX9_makeStatus 91 = .ok (.iadd, 1) := by decide +kernel
theorem dX9_makeStatus_92 : decode cX9_makeStatus 92 = .ok (.bipush 15, 2) := by decide +kernel
theorem dX9_makeStatus_94 : decode cX9_makeStatus 94 = .ok (.if_icmp .gt 11, 3) := by decide +kernel
theorem dX9_makeStatus_97 : decode cX9_makeStatus 97 = .ok (.iload_n 3, 1) := by decide +kernel
theorem dX9_makeStatus_98 : decode cX9_makeStatus 98 = .ok (.iload 8, 2) := by decide +kernel
theorem dX9_makeStatus_100 : decode cX9_makeStatus 100 = .ok (.iadd, 1) := by decide +kernel
theorem dX9_makeStatus_101 : decode cX9_makeStatus 101 = .ok (.iload_n 2, 1) := by decide +kernel
theorem dX9_makeStatus_102 : decode cX9_makeStatus 102 = .ok (.if_icmp .le 10, 3) := by decide +kernel
theorem dX9_makeStatus_105 : decode cX9_makeStatus 105 = .ok (.iload 6, 2) := by decide +kernel
theorem dX9_makeStatus_107 : decode cX9_makeStatus 107 = .ok (.istore 5, 2) := by decide +kernel
theorem dX9_makeStatus_109 : decode cX9_makeStatus 109 = .ok (.goto 26, 3) := by decide +kernel
theorem dX9_makeStatus_112 : decode cX9_makeStatus 112 = .ok (.aload_n 0, 1) := by decide +kernel
theorem dX9_makeStatus_113 : decode cX9_makeStatus 113 = .ok (.iload_n 1, 1) := by decide +kernel
theorem dX9_makeStatus_114 : decode cX9_makeStatus 114 = .ok (.iload 6, 2) := by decide +kernel
theorem dX9_makeStatus_116 : decode cX9_makeStatus 116 = .ok (.iload_n 3, 1) := by decide +kernel
theorem dX9_makeStatus_117 : decode cX9_makeStatus 117 = .ok (.iconst 1, 1) := by decide +kernel
theorem dX9_makeStatus_118 : decode cX9_makeStatus 118 = .ok (.invokevirtual 309, 3) := by decide +kernel
theorem dX9_makeStatus_121 : decode cX9_makeStatus 121 = .ok (.istore 7, 2) := by decide +kernel
theorem dX9_makeStatus_123 : decode cX9_makeStatus 123 = .ok (.iload 4, 2) := by decide +kernel
theorem dX9_makeStatus_125 : decode cX9_makeStatus 125 = .ok (.iload 7, 2) := by decide +kernel
theorem dX9_makeStatus_127 : decode cX9_makeStatus 127 = .ok (.iadd, 1) := by decide +kernel
theorem dX9_makeStatus_128 : decode cX9_makeStatus 128 = .ok (.istore 4, 2) := by decide +kernel
theorem dX9_makeStatus_130 : decode cX9_makeStatus 130 = .ok (.iload_n 3, 1) := by decide +kernel
theorem dX9_makeStatus_131 : decode cX9_makeStatus 131 = .ok (.iload 8, 2) := by decide +kernel
theorem dX9_makeStatus_133 : decode cX9_makeStatus 133 = .ok (.iadd, 1) := by decide +kernel
theorem dX9_makeStatus_134 : decode cX9_makeStatus 134 = .ok (.istore_n 3, 1) := by decide +kernel
theorem dX9_makeStatus_135 : decode cX9_makeStatus 135 = .ok (.iinc 6 1, 3) := by decide +kernel
theorem dX9_makeStatus_138 : decode cX9_makeStatus 138 = .ok (.goto (-117), 3) := by decide +kernel
theorem dX9_makeStatus_141 : decode cX9_makeStatus 141 = .ok (.aload_n 0, 1) := by decide +kernel
theorem dX9_makeStatus_142 : decode cX9_makeStatus 142 = .ok (.getfield 207, 3) := by decide +kernel
theorem dX9_makeStatus_145 : decode cX9_makeStatus 145 = .ok (.iconst 0, 1) := by decide +kernel
theorem dX9_makeStatus_146 : decode cX9_makeStatus 146 = .ok (.iload 4, 2) := by decide +kernel
theorem dX9_makeStatus_148 : decode cX9_makeStatus 148 = .ok (.iastore, 1) := by decide +kernel
theorem dX9_makeStatus_149 : decode cX9_makeStatus 149 = .ok (.aload_n 0, 1) := by decide +kernel
theorem dX9_makeStatus_150 : decode cX9_makeStatus 150 = .ok (.getfield 207, 3) := by decide +kernel
theorem dX9_makeStatus_153 : decode cX9_makeStatus 153 = .ok (.iconst 1, 1) := by decide +kernel
theorem dX9_makeStatus_154 : decode cX9_makeStatus 154 = .ok (.iload 5, 2) := by decide +kernel
theorem dX9_makeStatus_156 : decode cX9_makeStatus 156 = .ok (.bipush 63, 2) := by decide +kernel
theorem dX9_makeStatus_158 : decode cX9_makeStatus 158 = .ok (.iand, 1) := by decide +kernel
theorem dX9_makeStatus_159 : decode cX9_makeStatus 159 = .ok (.iastore, 1) := by decide +kernel
theorem dX9_makeStatus_160 : decode cX9_makeStatus 160 = .ok (.aload_n 0, 1) := by decide +kernel
theorem dX9_makeStatus_161 : decode cX9_makeStatus 161 = .ok (.getfield 137, 3) := by decide +kernel
theorem dX9_makeStatus_164 : decode cX9_makeStatus 164 = .ok (.iload_n 1, 1) := by decide +kernel
theorem dX9_makeStatus_165 : decode cX9_makeStatus 165 = .ok (.iconst 0, 1) := by decide +kernel
theorem dX9_makeStatus_166 : decode cX9_makeStatus 166 = .ok (.bastore, 1) := by decide +kernel
theorem dX9_makeStatus_167 : decode cX9_makeStatus 167 = .ok (.aload_n 0, 1) := by decide +kernel
theorem dX9_makeStatus_168 : decode cX9_makeStatus 168 = .ok (.getfield 122, 3) := by decide +kernel
theorem dX9_makeStatus_171 : decode cX9_makeStatus 171 = .ok (.iload_n 1, 1) := by decide +kernel
theorem dX9_makeStatus_172 : decode cX9_makeStatus 172 = .ok (.iconst 5, 1) := by decide +kernel
theorem dX9_makeStatus_173 : decode cX9_makeStatus 173 = .ok (.iastore, 1) := by decide +kernel
theorem dX9_makeStatus_174 : decode cX9_makeStatus 174 = .ok (.aload_n 0, 1) := by decide +kernel
theorem dX9_makeStatus_175 : decode cX9_makeStatus 175 = .ok (.getfield 128, 3) := by decide +kernel
theorem dX9_makeStatus_178 : decode cX9_makeStatus 178 = .ok (.iload_n 1, 1) := by decide +kernel
theorem dX9_makeStatus_179 : decode cX9_makeStatus 179 = .ok (.dup2, 1) := by decide +kernel
theorem dX9_makeStatus_180 : decode cX9_makeStatus 180 = .ok (.iaload, 1) := by decide +kernel
theorem dX9_makeStatus_181 : decode cX9_makeStatus 181 = .ok (.iconst 1, 1) := by decide +kernel
theorem dX9_makeStatus_182 : decode cX9_makeStatus 182 = .ok (.iadd, 1) := by decide +kernel
theorem dX9_makeStatus_183 : decode cX9_makeStatus 183 = .ok (.iastore, 1) := by decide +kernel
theorem dX9_makeStatus_184 : decode cX9_makeStatus 184 = .ok (.iload_n 3, 1) := by decide +kernel
theorem dX9_makeStatus_185 : decode cX9_makeStatus 185 = .ok (.ireturn, 1) := by decide +kernel
theorem dX9_meant_0 : decode cX9_meant 0 = .ok (.iload_n 0, 1) := by decide +kernel
theorem dX9_meant_1 : decode cX9_meant 1 = .ok (.iload_n 1, 1) := by decide +kernel
theorem dX9_meant_2 : decode cX9_meant 2 = .ok (.iload_n 0, 1) := by decide +kernel
theorem dX9_meant_3 : decode cX9_meant 3 = .ok (.isub, 1) := by decide +kernel
theorem dX9_meant_4 : decode cX9_meant 4 = .ok (.bipush 63, 2) := by decide +kernel
theorem dX9_meant_6 : decode cX9_meant 6 = .ok (.iand, 1) := by decide +kernel
theorem dX9_meant_7 : decode cX9_meant 7 = .ok (.iadd, 1) := by decide +kernel
theorem dX9_meant_8 : decode cX9_meant 8 = .ok (.ireturn, 1) := by decide +kernel
theorem dX9_comesAgain_0 : decode cX9_comesAgain 0 = .ok (.bipush 16, 2) := by decide +kernel
theorem dX9_comesAgain_2 : decode cX9_comesAgain 2 = .ok (.iload_n 1, 1) := by decide +kernel
theorem dX9_comesAgain_3 : decode cX9_comesAgain 3 = .ok (.imul, 1) := by decide +kernel
theorem dX9_comesAgain_4 : decode cX9_comesAgain 4 = .ok (.iload_n 2, 1) := by decide +kernel
theorem dX9_comesAgain_5 : decode cX9_comesAgain 5 = .ok (.bipush 15, 2) := by decide +kernel
theorem dX9_comesAgain_7 : decode cX9_comesAgain 7 = .ok (.iand, 1) := by decide +kernel
theorem dX9_comesAgain_8 : decode cX9_comesAgain 8 = .ok (.iadd, 1) := by decide +kernel
theorem dX9_comesAgain_9 : decode cX9_comesAgain 9 = .ok (.istore 5, 2) := by decide +kernel
theorem dX9_comesAgain_11 : decode cX9_comesAgain 11 = .ok (.aload_n 0, 1) := by decide +kernel
theorem dX9_comesAgain_12 : decode cX9_comesAgain 12 = .ok (.iload_n 1, 1) := by decide +kernel
theorem dX9_comesAgain_13 : decode cX9_comesAgain 13 = .ok (.iload_n 2, 1) := by decide +kernel
theorem dX9_comesAgain_14 : decode cX9_comesAgain 14 = .ok (.invokevirtual 283, 3) := by decide +kernel
theorem dX9_comesAgain_17 : decode cX9_comesAgain 17 = .ok (.ifCond .ne 32, 3) := by decide +kernel
theorem dX9_comesAgain_20 : decode cX9_comesAgain 20 = .ok (.aload_n 0, 1) := by decide +kernel
theorem dX9_comesAgain_21 : decode cX9_comesAgain 21 = .ok (.getfield 86, 3) := by decide +kernel
theorem dX9_comesAgain_24 : decode cX9_comesAgain 24 = .ok (.iload 5, 2) := by decide +kernel
theorem dX9_comesAgain_26 : decode cX9_comesAgain 26 = .ok (.dup2, 1) := by decide +kernel
theorem dX9_comesAgain_27 : decode cX9_comesAgain 27 = .ok (.iaload, 1) := by decide +kernel
theorem dX9_comesAgain_28 : decode cX9_comesAgain 28 = .ok (.iconst 1, 1) := by decide +kernel
theorem dX9_comesAgain_29 : decode cX9_comesAgain 29 = .ok (.iadd, 1) := by decide +kernel
theorem dX9_comesAgain_30 : decode cX9_comesAgain 30 = .ok (.iastore, 1) := by decide +kernel
theorem dX9_comesAgain_31 : decode cX9_comesAgain 31 = .ok (.aload_n 0, 1) := by decide +kernel
theorem dX9_comesAgain_32 : decode cX9_comesAgain 32 = .ok (.getfield 86, 3) := by decide +kernel
theorem dX9_comesAgain_35 : decode cX9_comesAgain 35 = .ok (.iload 5, 2) := by decide +kernel
theorem dX9_comesAgain_37 : decode cX9_comesAgain 37 = .ok (.iaload, 1) := by decide +kernel
theorem dX9_comesAgain_38 : decode cX9_comesAgain 38 = .ok (.iconst 5, 1) := by decide +kernel
theorem dX9_comesAgain_39 : decode cX9_comesAgain 39 = .ok (.if_icmp .ne 10, 3) := by decide +kernel
theorem dX9_comesAgain_42 : decode cX9_comesAgain 42 = .ok (.aload_n 0, 1) := by decide +kernel
theorem dX9_comesAgain_43 : decode cX9_comesAgain 43 = .ok (.getfield 47, 3) := by decide +kernel
theorem dX9_comesAgain_46 : decode cX9_comesAgain 46 = .ok (.iload_n 1, 1) := by decide +kernel
theorem dX9_comesAgain_47 : decode cX9_comesAgain 47 = .ok (.iconst 1, 1) := by decide +kernel
theorem dX9_comesAgain_48 : decode cX9_comesAgain 48 = .ok (.bastore, 1) := by decide +kernel
theorem dX9_comesAgain_49 : decode cX9_comesAgain 49 = .ok (.iload_n 3, 1) := by decide +kernel
theorem dX9_comesAgain_50 : decode cX9_comesAgain 50 = .ok (.istore 6, 2) := by decide +kernel
theorem dX9_comesAgain_52 : decode cX9_comesAgain 52 = .ok (.iload 6, 2) := by decide +kernel
theorem dX9_comesAgain_54 : decode cX9_comesAgain 54 = .ok (.iload 4, 2) := by decide +kernel
theorem dX9_comesAgain_56 : decode cX9_comesAgain 56 = .ok (.if_icmp .gt 36, 3) := by decide +kernel
theorem dX9_comesAgain_59 : decode cX9_comesAgain 59 = .ok (.iload 6, 2) := by decide +kernel
theorem dX9_comesAgain_61 : decode cX9_comesAgain 61 = .ok (.aload_n 0, 1) := by decide +kernel
theorem dX9_comesAgain_62 : decode cX9_comesAgain 62 = .ok (.getfield 83, 3) := by decide +kernel
theorem dX9_comesAgain_65 : decode cX9_comesAgain 65 = .ok (.iload 5, 2) := by decide +kernel
theorem dX9_comesAgain_67 : decode cX9_comesAgain 67 = .ok (.iaload, 1) := by decide +kernel
theorem dX9_comesAgain_68 : decode cX9_comesAgain 68 = .ok (.if_icmp .ge 24, 3) := by decide +kernel
theorem dX9_comesAgain_71 : decode cX9_comesAgain 71 = .ok (.aload_n 0, 1) := by decide +kernel
theorem dX9_comesAgain_72 : decode cX9_comesAgain 72 = .ok (.getfield 104, 3) := by decide +kernel
theorem dX9_comesAgain_75 : decode cX9_comesAgain 75 = .ok (.sipush 240, 3) := by decide +kernel
theorem dX9_comesAgain_78 : decode cX9_comesAgain 78 = .ok (.iload 5, 2) := by decide +kernel
theorem dX9_comesAgain_80 : decode cX9_comesAgain 80 = .ok (.imul, 1) := by decide +kernel
theorem dX9_comesAgain_81 : decode cX9_comesAgain 81 = .ok (.iload 6, 2) := by decide +kernel
theorem dX9_comesAgain_83 : decode cX9_comesAgain 83 = .ok (.iadd, 1) := by decide +kernel
theorem dX9_comesAgain_84 : decode cX9_comesAgain 84 = .ok (.iconst 1, 1) := by decide +kernel
theorem dX9_comesAgain_85 : decode cX9_comesAgain 85 = .ok (.bastore, 1) := by decide +kernel
theorem dX9_comesAgain_86 : decode cX9_comesAgain 86 = .ok (.iinc 6 1, 3) := by decide +kernel
theorem dX9_comesAgain_89 : decode cX9_comesAgain 89 = .ok (.goto (-37), 3) := by decide +kernel
theorem dX9_comesAgain_92 : decode cX9_comesAgain 92 = .ok (.return_, 1) := by decide +kernel
theorem dX9_status_0 : decode cX9_status 0 = .ok (.aload_n 0, 1) := by decide +kernel
theorem dX9_status_1 : decode cX9_status 1 = .ok (.getfield 40, 3) := by decide +kernel
theorem dX9_status_4 : decode cX9_status 4 = .ok (.iload_n 1, 1) := by decide +kernel
theorem dX9_status_5 : decode cX9_status 5 = .ok (.dup2, 1) := by decide +kernel
theorem dX9_status_6 : decode cX9_status 6 = .ok (.iaload, 1) := by decide +kernel
theorem dX9_status_7 : decode cX9_status 7 = .ok (.iconst 1, 1) := by decide +kernel
theorem dX9_status_8 : decode cX9_status 8 = .ok (.iadd, 1) := by decide +kernel
theorem dX9_status_9 : decode cX9_status 9 = .ok (.iastore, 1) := by decide +kernel
theorem dX9_status_10 : decode cX9_status 10 = .ok (.aload_n 2, 1) := by decide +kernel
theorem dX9_status_11 : decode cX9_status 11 = .ok (.iload_n 3, 1) := by decide +kernel
theorem dX9_status_12 : decode cX9_status 12 = .ok (.iaload, 1) := by decide +kernel
theorem dX9_status_13 : decode cX9_status 13 = .ok (.istore 4, 2) := by decide +kernel
theorem dX9_status_15 : decode cX9_status 15 = .ok (.aload_n 0, 1) := by decide +kernel
theorem dX9_status_16 : decode cX9_status 16 = .ok (.getfield 16, 3) := by decide +kernel
theorem dX9_status_19 : decode cX9_status 19 = .ok (.iload_n 1, 1) := by decide +kernel
theorem dX9_status_20 : decode cX9_status 20 = .ok (.iaload, 1) := by decide +kernel
theorem dX9_status_21 : decode cX9_status 21 = .ok (.istore 5, 2) := by decide +kernel
theorem dX9_status_23 : decode cX9_status 23 = .ok (.iload 5, 2) := by decide +kernel
theorem dX9_status_25 : decode cX9_status 25 = .ok (.aload_n 2, 1) := by decide +kernel
theorem dX9_status_26 : decode cX9_status 26 = .ok (.iload_n 3, 1) := by decide +kernel
theorem dX9_status_27 : decode cX9_status 27 = .ok (.iconst 1, 1) := by decide +kernel
theorem dX9_status_28 : decode cX9_status 28 = .ok (.iadd, 1) := by decide +kernel
theorem dX9_status_29 : decode cX9_status 29 = .ok (.iaload, 1) := by decide +kernel
theorem dX9_status_30 : decode cX9_status 30 = .ok (.bipush 63, 2) := by decide +kernel
theorem dX9_status_32 : decode cX9_status 32 = .ok (.iand, 1) := by decide +kernel
theorem dX9_status_33 : decode cX9_status 33 = .ok (.invokestatic 316, 3) := by decide +kernel
theorem dX9_status_36 : decode cX9_status 36 = .ok (.istore 6, 2) := by decide +kernel
theorem dX9_status_38 : decode cX9_status 38 = .ok (.iload 6, 2) := by decide +kernel
theorem dX9_status_40 : decode cX9_status 40 = .ok (.aload_n 0, 1) := by decide +kernel
theorem dX9_status_41 : decode cX9_status 41 = .ok (.getfield 19, 3) := by decide +kernel
theorem dX9_status_44 : decode cX9_status 44 = .ok (.iload_n 1, 1) := by decide +kernel
theorem dX9_status_45 : decode cX9_status 45 = .ok (.iaload, 1) := by decide +kernel
theorem dX9_status_46 : decode cX9_status 46 = .ok (.if_icmp .le 4, 3) := by decide +kernel
theorem dX9_status_49 : decode cX9_status 49 = .ok (.return_, 1) := by decide +kernel
theorem dX9_status_50 : decode cX9_status 50 = .ok (.iload 5, 2) := by decide +kernel
theorem dX9_status_52 : decode cX9_status 52 = .ok (.istore 7, 2) := by decide +kernel
theorem dX9_status_54 : decode cX9_status 54 = .ok (.iload 7, 2) := by decide +kernel
theorem dX9_status_56 : decode cX9_status 56 = .ok (.iload 6, 2) := by decide +kernel
theorem dX9_status_58 : decode cX9_status 58 = .ok (.if_icmp .ge 28, 3) := by decide +kernel
theorem dX9_status_61 : decode cX9_status 61 = .ok (.aload_n 2, 1) := by decide +kernel
theorem dX9_status_62 : decode cX9_status 62 = .ok (.iload_n 3, 1) := by decide +kernel
theorem dX9_status_63 : decode cX9_status 63 = .ok (.iload 4, 2) := by decide +kernel
theorem dX9_status_65 : decode cX9_status 65 = .ok (.iload 7, 2) := by decide +kernel
theorem dX9_status_67 : decode cX9_status 67 = .ok (.invokestatic 319, 3) := by decide +kernel
theorem dX9_status_70 : decode cX9_status 70 = .ok (.ifCond .ne 10, 3) := by decide +kernel
theorem dX9_status_73 : decode cX9_status 73 = .ok (.aload_n 0, 1) := by decide +kernel
theorem dX9_status_74 : decode cX9_status 74 = .ok (.iload_n 1, 1) := by decide +kernel
theorem dX9_status_75 : decode cX9_status 75 = .ok (.iload 7, 2) := by decide +kernel
theorem dX9_status_77 : decode cX9_status 77 = .ok (.invokevirtual 323, 3) := by decide +kernel
theorem dX9_status_80 : decode cX9_status 80 = .ok (.iinc 7 1, 3) := by decide +kernel
theorem dX9_status_83 : decode cX9_status 83 = .ok (.goto (-29), 3) := by decide +kernel
theorem dX9_status_86 : decode cX9_status 86 = .ok (.iload_n 3, 1) := by decide +kernel
theorem dX9_status_87 : decode cX9_status 87 = .ok (.iconst 2, 1) := by decide +kernel
theorem dX9_status_88 : decode cX9_status 88 = .ok (.iadd, 1) := by decide +kernel
theorem dX9_status_89 : decode cX9_status 89 = .ok (.istore 7, 2) := by decide +kernel
theorem dX9_status_91 : decode cX9_status 91 = .ok (.iconst 0, 1) := by decide +kernel
theorem dX9_status_92 : decode cX9_status 92 = .ok (.istore 8, 2) := by decide +kernel
theorem dX9_status_94 : decode cX9_status 94 = .ok (.iload 8, 2) := by decide +kernel
theorem dX9_status_96 : decode cX9_status 96 = .ok (.iload 4, 2) := by decide +kernel
theorem dX9_status_98 : decode cX9_status 98 = .ok (.if_icmp .ge 122, 3) := by decide +kernel
theorem dX9_status_101 : decode cX9_status 101 = .ok (.aload_n 2, 1) := by decide +kernel
theorem dX9_status_102 : decode cX9_status 102 = .ok (.iload 7, 2) := by decide +kernel
theorem dX9_status_104 : decode cX9_status 104 = .ok (.iaload, 1) := by decide +kernel
theorem dX9_status_105 : decode cX9_status 105 = .ok (.bipush 127, 2) := by decide +kernel
theorem dX9_status_107 : decode cX9_status 107 = .ok (.if_icmp .le 7, 3) := by decide +kernel
theorem dX9_status_110 : decode cX9_status 110 = .ok (.iconst 1, 1) := by decide +kernel
theorem dX9_status_111 : decode cX9_status 111 = .ok (.goto 4, 3) := by decide +kernel
theorem dX9_status_114 : decode cX9_status 114 = .ok (.iconst 0, 1) := by decide +kernel
theorem dX9_status_115 : decode cX9_status 115 = .ok (.istore 9, 2) := by decide +kernel
theorem dX9_status_117 : decode cX9_status 117 = .ok (.iload 5, 2) := by decide +kernel
theorem dX9_status_119 : decode cX9_status 119 = .ok (.aload_n 2, 1) := by decide +kernel
theorem dX9_status_120 : decode cX9_status 120 = .ok (.iload 7, 2) := by decide +kernel
theorem dX9_status_122 : decode cX9_status 122 = .ok (.iaload, 1) := by decide +kernel
theorem dX9_status_123 : decode cX9_status 123 = .ok (.bipush 63, 2) := by decide +kernel
theorem dX9_status_125 : decode cX9_status 125 = .ok (.iand, 1) := by decide +kernel
theorem dX9_status_126 : decode cX9_status 126 = .ok (.invokestatic 316, 3) := by decide +kernel
theorem dX9_status_129 : decode cX9_status 129 = .ok (.istore 10, 2) := by decide +kernel
theorem dX9_status_131 : decode cX9_status 131 = .ok (.iload 10, 2) := by decide +kernel
theorem dX9_status_133 : decode cX9_status 133 = .ok (.aload_n 0, 1) := by decide +kernel
theorem dX9_status_134 : decode cX9_status 134 = .ok (.getfield 19, 3) := by decide +kernel
theorem dX9_status_137 : decode cX9_status 137 = .ok (.iload_n 1, 1) := by decide +kernel
theorem dX9_status_138 : decode cX9_status 138 = .ok (.iaload, 1) := by decide +kernel
theorem dX9_status_139 : decode cX9_status 139 = .ok (.if_icmp .ge 60, 3) := by decide +kernel
theorem dX9_status_142 : decode cX9_status 142 = .ok (.aload_n 0, 1) := by decide +kernel
theorem dX9_status_143 : decode cX9_status 143 = .ok (.getfield 95, 3) := by decide +kernel
theorem dX9_status_146 : decode cX9_status 146 = .ok (.bipush 16, 2) := by decide +kernel
theorem dX9_status_148 : decode cX9_status 148 = .ok (.iload_n 1, 1) := by decide +kernel
theorem dX9_status_149 : decode cX9_status 149 = .ok (.imul, 1) := by decide +kernel
theorem dX9_status_150 : decode cX9_status 150 = .ok (.iload 10, 2) := by decide +kernel
theorem dX9_status_152 : decode cX9_status 152 = .ok (.bipush 15, 2) := by decide +kernel
theorem dX9_status_154 : decode cX9_status 154 = .ok (.iand, 1) := by decide +kernel
theorem dX9_status_155 : decode cX9_status 155 = .ok (.iadd, 1) := by decide +kernel
theorem dX9_status_156 : decode cX9_status 156 = .ok (.baload, 1) := by decide +kernel
theorem dX9_status_157 : decode cX9_status 157 = .ok (.ifCond .ne 42, 3) := by decide +kernel
theorem dX9_status_160 : decode cX9_status 160 = .ok (.aload_n 0, 1) := by decide +kernel
theorem dX9_status_161 : decode cX9_status 161 = .ok (.iload_n 1, 1) := by decide +kernel
theorem dX9_status_162 : decode cX9_status 162 = .ok (.iload 10, 2) := by decide +kernel
theorem dX9_status_164 : decode cX9_status 164 = .ok (.iload 9, 2) := by decide +kernel
theorem dX9_status_166 : decode cX9_status 166 = .ok (.ifCond .eq 12, 3) := by decide +kernel
theorem dX9_status_169 : decode cX9_status 169 = .ok (.aload_n 2, 1) := by decide +kernel
theorem dX9_status_170 : decode cX9_status 170 = .ok (.iload 7, 2) := by decide +kernel
theorem dX9_status_172 : decode cX9_status 172 = .ok (.iconst 1, 1) := by decide +kernel
theorem dX9_status_173 : decode cX9_status 173 = .ok (.iadd, 1) := by decide +kernel
theorem dX9_status_174 : decode cX9_status 174 = .ok (.iaload, 1) := by decide +kernel
theorem dX9_status_175 : decode cX9_status 175 = .ok (.goto 4, 3) := by decide +kernel
theorem dX9_status_178 : decode cX9_status 178 = .ok (.iconst 0, 1) := by decide +kernel
theorem dX9_status_179 : decode cX9_status 179 = .ok (.iload 9, 2) := by decide +kernel
theorem dX9_status_181 : decode cX9_status 181 = .ok (.ifCond .eq 12, 3) := by decide +kernel
theorem dX9_status_184 : decode cX9_status 184 = .ok (.aload_n 2, 1) := by decide +kernel
theorem dX9_status_185 : decode cX9_status 185 = .ok (.iload 7, 2) := by decide +kernel
theorem dX9_status_187 : decode cX9_status 187 = .ok (.iconst 2, 1) := by decide +kernel
theorem dX9_status_188 : decode cX9_status 188 = .ok (.iadd, 1) := by decide +kernel
theorem dX9_status_189 : decode cX9_status 189 = .ok (.iaload, 1) := by decide +kernel
theorem dX9_status_190 : decode cX9_status 190 = .ok (.goto 6, 3) := by decide +kernel
theorem dX9_status_193 : decode cX9_status 193 = .ok (.sipush 240, 3) := by decide +kernel
theorem dX9_status_196 : decode cX9_status 196 = .ok (.invokevirtual 327, 3) := by decide +kernel
theorem dX9_status_199 : decode cX9_status 199 = .ok (.iload 7, 2) := by decide +kernel
theorem dX9_status_201 : decode cX9_status 201 = .ok (.iload 9, 2) := by decide +kernel
theorem dX9_status_203 : decode cX9_status 203 = .ok (.ifCond .eq 7, 3) := by decide +kernel
theorem dX9_status_206 : decode cX9_status 206 = .ok (.iconst 3, 1) := by decide +kernel
theorem dX9_status_207 : decode cX9_status 207 = .ok (.goto 4, 3) := by decide +kernel
theorem dX9_status_210 : decode cX9_status 210 = .ok (.iconst 1, 1) := by decide +kernel
theorem dX9_status_211 : decode cX9_status 211 = .ok (.iadd, 1) := by decide +kernel
theorem dX9_status_212 : decode cX9_status 212 = .ok (.istore 7, 2) := by decide +kernel
theorem dX9_status_214 : decode cX9_status 214 = .ok (.iinc 8 1, 3) := by decide +kernel
theorem dX9_status_217 : decode cX9_status 217 = .ok (.goto (-123), 3) := by decide +kernel
theorem dX9_status_220 : decode cX9_status 220 = .ok (.aload_n 0, 1) := by decide +kernel
theorem dX9_status_221 : decode cX9_status 221 = .ok (.getfield 16, 3) := by decide +kernel
theorem dX9_status_224 : decode cX9_status 224 = .ok (.iload_n 1, 1) := by decide +kernel
theorem dX9_status_225 : decode cX9_status 225 = .ok (.iaload, 1) := by decide +kernel
theorem dX9_status_226 : decode cX9_status 226 = .ok (.aload_n 0, 1) := by decide +kernel
theorem dX9_status_227 : decode cX9_status 227 = .ok (.getfield 19, 3) := by decide +kernel
theorem dX9_status_230 : decode cX9_status 230 = .ok (.iload_n 1, 1) := by decide +kernel
theorem dX9_status_231 : decode cX9_status 231 = .ok (.iaload, 1) := by decide +kernel
theorem dX9_status_232 : decode cX9_status 232 = .ok (.if_icmp .ge 38, 3) := by decide +kernel
theorem dX9_status_235 : decode cX9_status 235 = .ok (.aload_n 0, 1) := by decide +kernel
theorem dX9_status_236 : decode cX9_status 236 = .ok (.getfield 95, 3) := by decide +kernel
theorem dX9_status_239 : decode cX9_status 239 = .ok (.bipush 16, 2) := by decide +kernel
theorem dX9_status_241 : decode cX9_status 241 = .ok (.iload_n 1, 1) := by decide +kernel
theorem dX9_status_242 : decode cX9_status 242 = .ok (.imul, 1) := by decide +kernel
theorem dX9_status_243 : decode cX9_status 243 = .ok (.aload_n 0, 1) := by decide +kernel
theorem dX9_status_244 : decode cX9_status 244 = .ok (.getfield 16, 3) := by decide +kernel
theorem dX9_status_247 : decode cX9_status 247 = .ok (.iload_n 1, 1) := by decide +kernel
theorem dX9_status_248 : decode cX9_status 248 = .ok (.iaload, 1) := by decide +kernel
theorem dX9_status_249 : decode cX9_status 249 = .ok (.bipush 15, 2) := by decide +kernel
theorem dX9_status_251 : decode cX9_status 251 = .ok (.iand, 1) := by decide +kernel
theorem dX9_status_252 : decode cX9_status 252 = .ok (.iadd, 1) := by decide +kernel
theorem dX9_status_253 : decode cX9_status 253 = .ok (.baload, 1) := by decide +kernel
theorem dX9_status_254 : decode cX9_status 254 = .ok (.ifCond .eq 16, 3) := by decide +kernel
theorem dX9_status_257 : decode cX9_status 257 = .ok (.aload_n 0, 1) := by decide +kernel
theorem dX9_status_258 : decode cX9_status 258 = .ok (.getfield 16, 3) := by decide +kernel
theorem dX9_status_261 : decode cX9_status 261 = .ok (.iload_n 1, 1) := by decide +kernel
theorem dX9_status_262 : decode cX9_status 262 = .ok (.dup2, 1) := by decide +kernel
theorem dX9_status_263 : decode cX9_status 263 = .ok (.iaload, 1) := by decide +kernel
theorem dX9_status_264 : decode cX9_status 264 = .ok (.iconst 1, 1) := by decide +kernel
theorem dX9_status_265 : decode cX9_status 265 = .ok (.iadd, 1) := by decide +kernel
theorem dX9_status_266 : decode cX9_status 266 = .ok (.iastore, 1) := by decide +kernel
theorem dX9_status_267 : decode cX9_status 267 = .ok (.goto (-47), 3) := by decide +kernel
theorem dX9_status_270 : decode cX9_status 270 = .ok (.aload_n 0, 1) := by decide +kernel
theorem dX9_status_271 : decode cX9_status 271 = .ok (.getfield 25, 3) := by decide +kernel
theorem dX9_status_274 : decode cX9_status 274 = .ok (.iload_n 1, 1) := by decide +kernel
theorem dX9_status_275 : decode cX9_status 275 = .ok (.iaload, 1) := by decide +kernel
theorem dX9_status_276 : decode cX9_status 276 = .ok (.iload 6, 2) := by decide +kernel
theorem dX9_status_278 : decode cX9_status 278 = .ok (.if_icmp .ge 10, 3) := by decide +kernel
theorem dX9_status_281 : decode cX9_status 281 = .ok (.aload_n 0, 1) := by decide +kernel
theorem dX9_status_282 : decode cX9_status 282 = .ok (.getfield 22, 3) := by decide +kernel
theorem dX9_status_285 : decode cX9_status 285 = .ok (.iload_n 1, 1) := by decide +kernel
theorem dX9_status_286 : decode cX9_status 286 = .ok (.iconst 0, 1) := by decide +kernel
theorem dX9_status_287 : decode cX9_status 287 = .ok (.iastore, 1) := by decide +kernel
theorem dX9_status_288 : decode cX9_status 288 = .ok (.return_, 1) := by decide +kernel
theorem dX9_isNamed_0 : decode cX9_isNamed 0 = .ok (.iload_n 1, 1) := by decide +kernel
theorem dX9_isNamed_1 : decode cX9_isNamed 1 = .ok (.iconst 2, 1) := by decide +kernel
theorem dX9_isNamed_2 : decode cX9_isNamed 2 = .ok (.iadd, 1) := by decide +kernel
theorem dX9_isNamed_3 : decode cX9_isNamed 3 = .ok (.istore 4, 2) := by decide +kernel
theorem dX9_isNamed_5 : decode cX9_isNamed 5 = .ok (.iconst 0, 1) := by decide +kernel
theorem dX9_isNamed_6 : decode cX9_isNamed 6 = .ok (.istore 5, 2) := by decide +kernel
theorem dX9_isNamed_8 : decode cX9_isNamed 8 = .ok (.iconst 0, 1) := by decide +kernel
theorem dX9_isNamed_9 : decode cX9_isNamed 9 = .ok (.istore 6, 2) := by decide +kernel
theorem dX9_isNamed_11 : decode cX9_isNamed 11 = .ok (.iload 6, 2) := by decide +kernel
theorem dX9_isNamed_13 : decode cX9_isNamed 13 = .ok (.iload_n 2, 1) := by decide +kernel
theorem dX9_isNamed_14 : decode cX9_isNamed 14 = .ok (.if_icmp .ge 54, 3) := by decide +kernel
theorem dX9_isNamed_17 : decode cX9_isNamed 17 = .ok (.iload 5, 2) := by decide +kernel
theorem dX9_isNamed_19 : decode cX9_isNamed 19 = .ok (.ifCond .ne 17, 3) := by decide +kernel
theorem dX9_isNamed_22 : decode cX9_isNamed 22 = .ok (.aload_n 0, 1) := by decide +kernel
theorem dX9_isNamed_23 : decode cX9_isNamed 23 = .ok (.iload 4, 2) := by decide +kernel
theorem dX9_isNamed_25 : decode cX9_isNamed 25 = .ok (.iaload, 1) := by decide +kernel
theorem dX9_isNamed_26 : decode cX9_isNamed 26 = .ok (.bipush 63, 2) := by decide +kernel
theorem dX9_isNamed_28 : decode cX9_isNamed 28 = .ok (.iand, 1) := by decide +kernel
theorem dX9_isNamed_29 : decode cX9_isNamed 29 = .ok (.iload_n 3, 1) := by decide +kernel
theorem dX9_isNamed_30 : decode cX9_isNamed 30 = .ok (.bipush 63, 2) := by decide +kernel
theorem dX9_isNamed_32 : decode cX9_isNamed 32 = .ok (.iand, 1) := by decide +kernel
theorem dX9_isNamed_33 : decode cX9_isNamed 33 = .ok (.if_icmp .ne 7, 3) := by decide +kernel
theorem dX9_isNamed_36 : decode cX9_isNamed 36 = .ok (.iconst 1, 1) := by decide +kernel
theorem dX9_isNamed_37 : decode cX9_isNamed 37 = .ok (.goto 4, 3) := by decide +kernel
theorem dX9_isNamed_40 : decode cX9_isNamed 40 = .ok (.iconst 0, 1) := by decide +kernel
theorem dX9_isNamed_41 : decode cX9_isNamed 41 = .ok (.istore 5, 2) := by decide +kernel
theorem dX9_isNamed_43 : decode cX9_isNamed 43 = .ok (.iload 4, 2) := by decide +kernel
theorem dX9_isNamed_45 : decode cX9_isNamed 45 = .ok (.aload_n 0, 1) := by decide +kernel
theorem dX9_isNamed_46 : decode cX9_isNamed 46 = .ok (.iload 4, 2) := by decide +kernel
theorem dX9_isNamed_48 : decode cX9_isNamed 48 = .ok (.iaload, 1) := by decide +kernel
theorem dX9_isNamed_49 : decode cX9_isNamed 49 = .ok (.bipush 127, 2) := by decide +kernel
theorem dX9_isNamed_51 : decode cX9_isNamed 51 = .ok (.if_icmp .le 7, 3) := by decide +kernel
theorem dX9_isNamed_54 : decode cX9_isNamed 54 = .ok (.iconst 3, 1) := by decide +kernel
theorem dX9_isNamed_55 : decode cX9_isNamed 55 = .ok (.goto 4, 3) := by decide +kernel
theorem dX9_isNamed_58 : decode cX9_isNamed 58 = .ok (.iconst 1, 1) := by decide +kernel
theorem dX9_isNamed_59 : decode cX9_isNamed 59 = .ok (.iadd, 1) := by decide +kernel
theorem dX9_isNamed_60 : decode cX9_isNamed 60 = .ok (.istore 4, 2) := by decide +kernel
theorem dX9_isNamed_62 : decode cX9_isNamed 62 = .ok (.iinc 6 1, 3) := by decide +kernel
theorem dX9_isNamed_65 : decode cX9_isNamed 65 = .ok (.goto (-54), 3) := by decide +kernel
theorem dX9_isNamed_68 : decode cX9_isNamed 68 = .ok (.iload 5, 2) := by decide +kernel
theorem dX9_isNamed_70 : decode cX9_isNamed 70 = .ok (.ireturn, 1) := by decide +kernel
theorem dX9_confirmPiece_0 : decode cX9_confirmPiece 0 = .ok (.bipush 16, 2) := by decide +kernel
theorem dX9_confirmPiece_2 : decode cX9_confirmPiece 2 = .ok (.iload_n 1, 1) := by decide +kernel
theorem dX9_confirmPiece_3 : decode cX9_confirmPiece 3 = .ok (.imul, 1) := by decide +kernel
theorem dX9_confirmPiece_4 : decode cX9_confirmPiece 4 = .ok (.iload_n 2, 1) := by decide +kernel
theorem dX9_confirmPiece_5 : decode cX9_confirmPiece 5 = .ok (.bipush 15, 2) := by decide +kernel
theorem dX9_confirmPiece_7 : decode cX9_confirmPiece 7 = .ok (.iand, 1) := by decide +kernel
theorem dX9_confirmPiece_8 : decode cX9_confirmPiece 8 = .ok (.iadd, 1) := by decide +kernel
theorem dX9_confirmPiece_9 : decode cX9_confirmPiece 9 = .ok (.istore_n 3, 1) := by decide +kernel
theorem dX9_confirmPiece_10 : decode cX9_confirmPiece 10 = .ok (.aload_n 0, 1) := by decide +kernel
theorem dX9_confirmPiece_11 : decode cX9_confirmPiece 11 = .ok (.getfield 95, 3) := by decide +kernel
theorem dX9_confirmPiece_14 : decode cX9_confirmPiece 14 = .ok (.iload_n 3, 1) := by decide +kernel
theorem dX9_confirmPiece_15 : decode cX9_confirmPiece 15 = .ok (.baload, 1) := by decide +kernel
theorem dX9_confirmPiece_16 : decode cX9_confirmPiece 16 = .ok (.ifCond .eq 4, 3) := by decide +kernel
theorem dX9_confirmPiece_19 : decode cX9_confirmPiece 19 = .ok (.return_, 1) := by decide +kernel
theorem dX9_confirmPiece_20 : decode cX9_confirmPiece 20 = .ok (.aload_n 0, 1) := by decide +kernel
theorem dX9_confirmPiece_21 : decode cX9_confirmPiece 21 = .ok (.getfield 95, 3) := by decide +kernel
theorem dX9_confirmPiece_24 : decode cX9_confirmPiece 24 = .ok (.iload_n 3, 1) := by decide +kernel
theorem dX9_confirmPiece_25 : decode cX9_confirmPiece 25 = .ok (.iconst 1, 1) := by decide +kernel
theorem dX9_confirmPiece_26 : decode cX9_confirmPiece 26 = .ok (.bastore, 1) := by decide +kernel
theorem dX9_confirmPiece_27 : decode cX9_confirmPiece 27 = .ok (.iconst 0, 1) := by decide +kernel
theorem dX9_confirmPiece_28 : decode cX9_confirmPiece 28 = .ok (.istore 4, 2) := by decide +kernel
theorem dX9_confirmPiece_30 : decode cX9_confirmPiece 30 = .ok (.iload 4, 2) := by decide +kernel
theorem dX9_confirmPiece_32 : decode cX9_confirmPiece 32 = .ok (.aload_n 0, 1) := by decide +kernel
theorem dX9_confirmPiece_33 : decode cX9_confirmPiece 33 = .ok (.getfield 83, 3) := by decide +kernel
theorem dX9_confirmPiece_36 : decode cX9_confirmPiece 36 = .ok (.iload_n 3, 1) := by decide +kernel
theorem dX9_confirmPiece_37 : decode cX9_confirmPiece 37 = .ok (.iaload, 1) := by decide +kernel
theorem dX9_confirmPiece_38 : decode cX9_confirmPiece 38 = .ok (.if_icmp .ge 112, 3) := by decide +kernel
theorem dX9_confirmPiece_41 : decode cX9_confirmPiece 41 = .ok (.aload_n 0, 1) := by decide +kernel
theorem dX9_confirmPiece_42 : decode cX9_confirmPiece 42 = .ok (.getfield 104, 3) := by decide +kernel
theorem dX9_confirmPiece_45 : decode cX9_confirmPiece 45 = .ok (.sipush 240, 3) := by decide +kernel
theorem dX9_confirmPiece_48 : decode cX9_confirmPiece 48 = .ok (.iload_n 3, 1) := by decide +kernel
theorem dX9_confirmPiece_49 : decode cX9_confirmPiece 49 = .ok (.imul, 1) := by decide +kernel
theorem dX9_confirmPiece_50 : decode cX9_confirmPiece 50 = .ok (.iload 4, 2) := by decide +kernel
theorem dX9_confirmPiece_52 : decode cX9_confirmPiece 52 = .ok (.iadd, 1) := by decide +kernel
theorem dX9_confirmPiece_53 : decode cX9_confirmPiece 53 = .ok (.iconst 0, 1) := by decide +kernel
theorem dX9_confirmPiece_54 : decode cX9_confirmPiece 54 = .ok (.bastore, 1) := by decide +kernel
theorem dX9_confirmPiece_55 : decode cX9_confirmPiece 55 = .ok (.aload_n 0, 1) := by decide +kernel
theorem dX9_confirmPiece_56 : decode cX9_confirmPiece 56 = .ok (.getfield 92, 3) := by decide +kernel
theorem dX9_confirmPiece_59 : decode cX9_confirmPiece 59 = .ok (.sipush 240, 3) := by decide +kernel
theorem dX9_confirmPiece_62 : decode cX9_confirmPiece 62 = .ok (.iload_n 3, 1) := by decide +kernel
theorem dX9_confirmPiece_63 : decode cX9_confirmPiece 63 = .ok (.imul, 1) := by decide +kernel
theorem dX9_confirmPiece_64 : decode cX9_confirmPiece 64 = .ok (.iload 4, 2) := by decide +kernel
theorem dX9_confirmPiece_66 : decode cX9_confirmPiece 66 = .ok (.iadd, 1) := by decide +kernel
theorem dX9_confirmPiece_67 : decode cX9_confirmPiece 67 = .ok (.iaload, 1) := by decide +kernel
theorem dX9_confirmPiece_68 : decode cX9_confirmPiece 68 = .ok (.istore 5, 2) := by decide +kernel
theorem dX9_confirmPiece_70 : decode cX9_confirmPiece 70 = .ok (.iload 5, 2) := by decide +kernel
theorem dX9_confirmPiece_72 : decode cX9_confirmPiece 72 = .ok (.iconst (-1), 1) := by decide +kernel
theorem dX9_confirmPiece_73 : decode cX9_confirmPiece 73 = .ok (.if_icmp .ne 6, 3) := by decide +kernel
theorem dX9_confirmPiece_76 : decode cX9_confirmPiece 76 = .ok (.goto 68, 3) := by decide +kernel
theorem dX9_confirmPiece_79 : decode cX9_confirmPiece 79 = .ok (.bipush 32, 2) := by decide +kernel
theorem dX9_confirmPiece_81 : decode cX9_confirmPiece 81 = .ok (.iload_n 1, 1) := by decide +kernel
theorem dX9_confirmPiece_82 : decode cX9_confirmPiece 82 = .ok (.imul, 1) := by decide +kernel
theorem dX9_confirmPiece_83 : decode cX9_confirmPiece 83 = .ok (.iload 5, 2) := by decide +kernel
theorem dX9_confirmPiece_85 : decode cX9_confirmPiece 85 = .ok (.bipush 31, 2) := by decide +kernel
theorem dX9_confirmPiece_87 : decode cX9_confirmPiece 87 = .ok (.iand, 1) := by decide +kernel
theorem dX9_confirmPiece_88 : decode cX9_confirmPiece 88 = .ok (.iadd, 1) := by decide +kernel
theorem dX9_confirmPiece_89 : decode cX9_confirmPiece 89 = .ok (.istore 6, 2) := by decide +kernel
theorem dX9_confirmPiece_91 : decode cX9_confirmPiece 91 = .ok (.aload_n 0, 1) := by decide +kernel
theorem dX9_confirmPiece_92 : decode cX9_confirmPiece 92 = .ok (.getfield 53, 3) := by decide +kernel
theorem dX9_confirmPiece_95 : decode cX9_confirmPiece 95 = .ok (.iload 6, 2) := by decide +kernel
theorem dX9_confirmPiece_97 : decode cX9_confirmPiece 97 = .ok (.baload, 1) := by decide +kernel
theorem dX9_confirmPiece_98 : decode cX9_confirmPiece 98 = .ok (.ifCond .eq 46, 3) := by decide +kernel
theorem dX9_confirmPiece_101 : decode cX9_confirmPiece 101 = .ok (.aload_n 0, 1) := by decide +kernel
theorem dX9_confirmPiece_102 : decode cX9_confirmPiece 102 = .ok (.getfield 59, 3) := by decide +kernel
theorem dX9_confirmPiece_105 : decode cX9_confirmPiece 105 = .ok (.iload 6, 2) := by decide +kernel
theorem dX9_confirmPiece_107 : decode cX9_confirmPiece 107 = .ok (.iaload, 1) := by decide +kernel
theorem dX9_confirmPiece_108 : decode cX9_confirmPiece 108 = .ok (.iload 5, 2) := by decide +kernel
theorem dX9_confirmPiece_110 : decode cX9_confirmPiece 110 = .ok (.if_icmp .eq 6, 3) := by decide +kernel
theorem dX9_confirmPiece_113 : decode cX9_confirmPiece 113 = .ok (.goto 31, 3) := by decide +kernel
theorem dX9_confirmPiece_116 : decode cX9_confirmPiece 116 = .ok (.aload_n 0, 1) := by decide +kernel
theorem dX9_confirmPiece_117 : decode cX9_confirmPiece 117 = .ok (.getfield 62, 3) := by decide +kernel
theorem dX9_confirmPiece_120 : decode cX9_confirmPiece 120 = .ok (.iload 6, 2) := by decide +kernel
theorem dX9_confirmPiece_122 : decode cX9_confirmPiece 122 = .ok (.dup2, 1) := by decide +kernel
theorem dX9_confirmPiece_123 : decode cX9_confirmPiece 123 = .ok (.iaload, 1) := by decide +kernel
theorem dX9_confirmPiece_124 : decode cX9_confirmPiece 124 = .ok (.iconst 1, 1) := by decide +kernel
theorem dX9_confirmPiece_125 : decode cX9_confirmPiece 125 = .ok (.isub, 1) := by decide +kernel
theorem dX9_confirmPiece_126 : decode cX9_confirmPiece 126 = .ok (.iastore, 1) := by decide +kernel
theorem dX9_confirmPiece_127 : decode cX9_confirmPiece 127 = .ok (.aload_n 0, 1) := by decide +kernel
theorem dX9_confirmPiece_128 : decode cX9_confirmPiece 128 = .ok (.getfield 62, 3) := by decide +kernel
theorem dX9_confirmPiece_131 : decode cX9_confirmPiece 131 = .ok (.iload 6, 2) := by decide +kernel
theorem dX9_confirmPiece_133 : decode cX9_confirmPiece 133 = .ok (.iaload, 1) := by decide +kernel
theorem dX9_confirmPiece_134 : decode cX9_confirmPiece 134 = .ok (.ifCond .ne 10, 3) := by decide +kernel
theorem dX9_confirmPiece_137 : decode cX9_confirmPiece 137 = .ok (.aload_n 0, 1) := by decide +kernel
theorem dX9_confirmPiece_138 : decode cX9_confirmPiece 138 = .ok (.iload_n 1, 1) := by decide +kernel
theorem dX9_confirmPiece_139 : decode cX9_confirmPiece 139 = .ok (.iload 5, 2) := by decide +kernel
theorem dX9_confirmPiece_141 : decode cX9_confirmPiece 141 = .ok (.invokevirtual 330, 3) := by decide +kernel
theorem dX9_confirmPiece_144 : decode cX9_confirmPiece 144 = .ok (.iinc 4 1, 3) := by decide +kernel
theorem dX9_confirmPiece_147 : decode cX9_confirmPiece 147 = .ok (.goto (-117), 3) := by decide +kernel
theorem dX9_confirmPiece_150 : decode cX9_confirmPiece 150 = .ok (.return_, 1) := by decide +kernel
theorem dX9_isWhole_0 : decode cX9_isWhole 0 = .ok (.iload_n 2, 1) := by decide +kernel
theorem dX9_isWhole_1 : decode cX9_isWhole 1 = .ok (.aload_n 0, 1) := by decide +kernel
theorem dX9_isWhole_2 : decode cX9_isWhole 2 = .ok (.getfield 107, 3) := by decide +kernel
theorem dX9_isWhole_5 : decode cX9_isWhole 5 = .ok (.iload_n 1, 1) := by decide +kernel
theorem dX9_isWhole_6 : decode cX9_isWhole 6 = .ok (.iaload, 1) := by decide +kernel
theorem dX9_isWhole_7 : decode cX9_isWhole 7 = .ok (.if_icmp .lt 16, 3) := by decide +kernel
theorem dX9_isWhole_10 : decode cX9_isWhole 10 = .ok (.iload_n 2, 1) := by decide +kernel
theorem dX9_isWhole_11 : decode cX9_isWhole 11 = .ok (.aload_n 0, 1) := by decide +kernel
theorem dX9_isWhole_12 : decode cX9_isWhole 12 = .ok (.getfield 107, 3) := by decide +kernel
theorem dX9_isWhole_15 : decode cX9_isWhole 15 = .ok (.iload_n 1, 1) := by decide +kernel
theorem dX9_isWhole_16 : decode cX9_isWhole 16 = .ok (.iaload, 1) := by decide +kernel
theorem dX9_isWhole_17 : decode cX9_isWhole 17 = .ok (.bipush 32, 2) := by decide +kernel
theorem dX9_isWhole_19 : decode cX9_isWhole 19 = .ok (.iadd, 1) := by decide +kernel
theorem dX9_isWhole_20 : decode cX9_isWhole 20 = .ok (.if_icmp .lt 5, 3) := by decide +kernel
theorem dX9_isWhole_23 : decode cX9_isWhole 23 = .ok (.iconst 0, 1) := by decide +kernel
theorem dX9_isWhole_24 : decode cX9_isWhole 24 = .ok (.ireturn, 1) := by decide +kernel
theorem dX9_isWhole_25 : decode cX9_isWhole 25 = .ok (.bipush 32, 2) := by decide +kernel
theorem dX9_isWhole_27 : decode cX9_isWhole 27 = .ok (.iload_n 1, 1) := by decide +kernel
theorem dX9_isWhole_28 : decode cX9_isWhole 28 = .ok (.imul, 1) := by decide +kernel
theorem dX9_isWhole_29 : decode cX9_isWhole 29 = .ok (.iload_n 2, 1) := by decide +kernel
theorem dX9_isWhole_30 : decode cX9_isWhole 30 = .ok (.bipush 31, 2) := by decide +kernel
theorem dX9_isWhole_32 : decode cX9_isWhole 32 = .ok (.iand, 1) := by decide +kernel
theorem dX9_isWhole_33 : decode cX9_isWhole 33 = .ok (.iadd, 1) := by decide +kernel
theorem dX9_isWhole_34 : decode cX9_isWhole 34 = .ok (.istore_n 3, 1) := by decide +kernel
theorem dX9_isWhole_35 : decode cX9_isWhole 35 = .ok (.aload_n 0, 1) := by decide +kernel
theorem dX9_isWhole_36 : decode cX9_isWhole 36 = .ok (.getfield 140, 3) := by decide +kernel
theorem dX9_isWhole_39 : decode cX9_isWhole 39 = .ok (.iload_n 3, 1) := by decide +kernel
theorem dX9_isWhole_40 : decode cX9_isWhole 40 = .ok (.iaload, 1) := by decide +kernel
theorem dX9_isWhole_41 : decode cX9_isWhole 41 = .ok (.iconst (-1), 1) := by decide +kernel
theorem dX9_isWhole_42 : decode cX9_isWhole 42 = .ok (.if_icmp .eq 7, 3) := by decide +kernel
theorem dX9_isWhole_45 : decode cX9_isWhole 45 = .ok (.iconst 1, 1) := by decide +kernel
theorem dX9_isWhole_46 : decode cX9_isWhole 46 = .ok (.goto 4, 3) := by decide +kernel
theorem dX9_isWhole_49 : decode cX9_isWhole 49 = .ok (.iconst 0, 1) := by decide +kernel
theorem dX9_isWhole_50 : decode cX9_isWhole 50 = .ok (.istore 4, 2) := by decide +kernel
theorem dX9_isWhole_52 : decode cX9_isWhole 52 = .ok (.iconst 0, 1) := by decide +kernel
theorem dX9_isWhole_53 : decode cX9_isWhole 53 = .ok (.istore 5, 2) := by decide +kernel
theorem dX9_isWhole_55 : decode cX9_isWhole 55 = .ok (.iload 5, 2) := by decide +kernel
theorem dX9_isWhole_57 : decode cX9_isWhole 57 = .ok (.aload_n 0, 1) := by decide +kernel
theorem dX9_isWhole_58 : decode cX9_isWhole 58 = .ok (.getfield 140, 3) := by decide +kernel
theorem dX9_isWhole_61 : decode cX9_isWhole 61 = .ok (.iload_n 3, 1) := by decide +kernel
theorem dX9_isWhole_62 : decode cX9_isWhole 62 = .ok (.iaload, 1) := by decide +kernel
theorem dX9_isWhole_63 : decode cX9_isWhole 63 = .ok (.if_icmp .ge 29, 3) := by decide +kernel
theorem dX9_isWhole_66 : decode cX9_isWhole 66 = .ok (.iload 4, 2) := by decide +kernel
theorem dX9_isWhole_68 : decode cX9_isWhole 68 = .ok (.ifCond .eq 24, 3) := by decide +kernel
theorem dX9_isWhole_71 : decode cX9_isWhole 71 = .ok (.aload_n 0, 1) := by decide +kernel
theorem dX9_isWhole_72 : decode cX9_isWhole 72 = .ok (.getfield 147, 3) := by decide +kernel
theorem dX9_isWhole_75 : decode cX9_isWhole 75 = .ok (.sipush 240, 3) := by decide +kernel
theorem dX9_isWhole_78 : decode cX9_isWhole 78 = .ok (.iload_n 3, 1) := by decide +kernel
theorem dX9_isWhole_79 : decode cX9_isWhole 79 = .ok (.imul, 1) := by decide +kernel
theorem dX9_isWhole_80 : decode cX9_isWhole 80 = .ok (.iload 5, 2) := by decide +kernel
theorem dX9_isWhole_82 : decode cX9_isWhole 82 = .ok (.iadd, 1) := by decide +kernel
theorem dX9_isWhole_83 : decode cX9_isWhole 83 = .ok (.baload, 1) := by decide +kernel
theorem dX9_isWhole_84 : decode cX9_isWhole 84 = .ok (.istore 4, 2) := by decide +kernel
theorem dX9_isWhole_86 : decode cX9_isWhole 86 = .ok (.iinc 5 1, 3) := by decide +kernel
theorem dX9_isWhole_89 : decode cX9_isWhole 89 = .ok (.goto (-34), 3) := by decide +kernel
theorem dX9_isWhole_92 : decode cX9_isWhole 92 = .ok (.iload 4, 2) := by decide +kernel
theorem dX9_isWhole_94 : decode cX9_isWhole 94 = .ok (.ireturn, 1) := by decide +kernel
theorem dX9_asksStatus_0 : decode cX9_asksStatus 0 = .ok (.aload_n 0, 1) := by decide +kernel
theorem dX9_asksStatus_1 : decode cX9_asksStatus 1 = .ok (.getfield 125, 3) := by decide +kernel
theorem dX9_asksStatus_4 : decode cX9_asksStatus 4 = .ok (.iload_n 1, 1) := by decide +kernel
theorem dX9_asksStatus_5 : decode cX9_asksStatus 5 = .ok (.iaload, 1) := by decide +kernel
theorem dX9_asksStatus_6 : decode cX9_asksStatus 6 = .ok (.iconst (-1), 1) := by decide +kernel
theorem dX9_asksStatus_7 : decode cX9_asksStatus 7 = .ok (.if_icmp .eq 18, 3) := by decide +kernel
theorem dX9_asksStatus_10 : decode cX9_asksStatus 10 = .ok (.aload_n 0, 1) := by decide +kernel
theorem dX9_asksStatus_11 : decode cX9_asksStatus 11 = .ok (.getfield 125, 3) := by decide +kernel
theorem dX9_asksStatus_14 : decode cX9_asksStatus 14 = .ok (.iload_n 1, 1) := by decide +kernel
theorem dX9_asksStatus_15 : decode cX9_asksStatus 15 = .ok (.iaload, 1) := by decide +kernel
theorem dX9_asksStatus_16 : decode cX9_asksStatus 16 = .ok (.aload_n 0, 1) := by decide +kernel
theorem dX9_asksStatus_17 : decode cX9_asksStatus 17 = .ok (.getfield 113, 3) := by decide +kernel
theorem dX9_asksStatus_20 : decode cX9_asksStatus 20 = .ok (.iload_n 1, 1) := by decide +kernel
theorem dX9_asksStatus_21 : decode cX9_asksStatus 21 = .ok (.iaload, 1) := by decide +kernel
theorem dX9_asksStatus_22 : decode cX9_asksStatus 22 = .ok (.if_icmp .lt 4, 3) := by decide +kernel
theorem dX9_asksStatus_25 : decode cX9_asksStatus 25 = .ok (.return_, 1) := by decide +kernel
theorem dX9_asksStatus_26 : decode cX9_asksStatus 26 = .ok (.aload_n 0, 1) := by decide +kernel
theorem dX9_asksStatus_27 : decode cX9_asksStatus 27 = .ok (.getfield 137, 3) := by decide +kernel
theorem dX9_asksStatus_30 : decode cX9_asksStatus 30 = .ok (.iload_n 1, 1) := by decide +kernel
theorem dX9_asksStatus_31 : decode cX9_asksStatus 31 = .ok (.iconst 1, 1) := by decide +kernel
theorem dX9_asksStatus_32 : decode cX9_asksStatus 32 = .ok (.bastore, 1) := by decide +kernel
theorem dX9_asksStatus_33 : decode cX9_asksStatus 33 = .ok (.aload_n 0, 1) := by decide +kernel
theorem dX9_asksStatus_34 : decode cX9_asksStatus 34 = .ok (.getfield 125, 3) := by decide +kernel
theorem dX9_asksStatus_37 : decode cX9_asksStatus 37 = .ok (.iload_n 1, 1) := by decide +kernel
theorem dX9_asksStatus_38 : decode cX9_asksStatus 38 = .ok (.iconst (-1), 1) := by decide +kernel
theorem dX9_asksStatus_39 : decode cX9_asksStatus 39 = .ok (.iastore, 1) := by decide +kernel
theorem dX9_asksStatus_40 : decode cX9_asksStatus 40 = .ok (.return_, 1) := by decide +kernel
theorem dX9_goOn_0 : decode cX9_goOn 0 = .ok (.aload_n 0, 1) := by decide +kernel
theorem dX9_goOn_1 : decode cX9_goOn 1 = .ok (.iload_n 1, 1) := by decide +kernel
theorem dX9_goOn_2 : decode cX9_goOn 2 = .ok (.aload_n 0, 1) := by decide +kernel
theorem dX9_goOn_3 : decode cX9_goOn 3 = .ok (.getfield 113, 3) := by decide +kernel
theorem dX9_goOn_6 : decode cX9_goOn 6 = .ok (.iload_n 1, 1) := by decide +kernel
theorem dX9_goOn_7 : decode cX9_goOn 7 = .ok (.iaload, 1) := by decide +kernel
theorem dX9_goOn_8 : decode cX9_goOn 8 = .ok (.invokevirtual 306, 3) := by decide +kernel
theorem dX9_goOn_11 : decode cX9_goOn 11 = .ok (.ifCond .eq 16, 3) := by decide +kernel
theorem dX9_goOn_14 : decode cX9_goOn 14 = .ok (.aload_n 0, 1) := by decide +kernel
theorem dX9_goOn_15 : decode cX9_goOn 15 = .ok (.getfield 113, 3) := by decide +kernel
theorem dX9_goOn_18 : decode cX9_goOn 18 = .ok (.iload_n 1, 1) := by decide +kernel
theorem dX9_goOn_19 : decode cX9_goOn 19 = .ok (.dup2, 1) := by decide +kernel
theorem dX9_goOn_20 : decode cX9_goOn 20 = .ok (.iaload, 1) := by decide +kernel
theorem dX9_goOn_21 : decode cX9_goOn 21 = .ok (.iconst 1, 1) := by decide +kernel
theorem dX9_goOn_22 : decode cX9_goOn 22 = .ok (.iadd, 1) := by decide +kernel
theorem dX9_goOn_23 : decode cX9_goOn 23 = .ok (.iastore, 1) := by decide +kernel
theorem dX9_goOn_24 : decode cX9_goOn 24 = .ok (.goto (-24), 3) := by decide +kernel
theorem dX9_goOn_27 : decode cX9_goOn 27 = .ok (.return_, 1) := by decide +kernel
theorem dX9_dataComes_0 : decode cX9_dataComes 0 = .ok (.iload_n 1, 1) := by decide +kernel
theorem dX9_dataComes_1 : decode cX9_dataComes 1 = .ok (.iload_n 2, 1) := by decide +kernel
theorem dX9_dataComes_2 : decode cX9_dataComes 2 = .ok (.invokestatic 258, 3) := by decide +kernel
theorem dX9_dataComes_5 : decode cX9_dataComes 5 = .ok (.istore 6, 2) := by decide +kernel
theorem dX9_dataComes_7 : decode cX9_dataComes 7 = .ok (.aload_n 0, 1) := by decide +kernel
theorem dX9_dataComes_8 : decode cX9_dataComes 8 = .ok (.getfield 131, 3) := by decide +kernel
theorem dX9_dataComes_11 : decode cX9_dataComes 11 = .ok (.iload 6, 2) := by decide +kernel
theorem dX9_dataComes_13 : decode cX9_dataComes 13 = .ok (.dup2, 1) := by decide +kernel
theorem dX9_dataComes_14 : decode cX9_dataComes 14 = .ok (.iaload, 1) := by decide +kernel
theorem dX9_dataComes_15 : decode cX9_dataComes 15 = .ok (.iconst 1, 1) := by decide +kernel
theorem dX9_dataComes_16 : decode cX9_dataComes 16 = .ok (.iadd, 1) := by decide +kernel
theorem dX9_dataComes_17 : decode cX9_dataComes 17 = .ok (.iastore, 1) := by decide +kernel
theorem dX9_dataComes_18 : decode cX9_dataComes 18 = .ok (.aload_n 3, 1) := by decide +kernel
theorem dX9_dataComes_19 : decode cX9_dataComes 19 = .ok (.iload 4, 2) := by decide +kernel
theorem dX9_dataComes_21 : decode cX9_dataComes 21 = .ok (.iaload, 1) := by decide +kernel
theorem dX9_dataComes_22 : decode cX9_dataComes 22 = .ok (.istore 7, 2) := by decide +kernel
theorem dX9_dataComes_24 : decode cX9_dataComes 24 = .ok (.iload 7, 2) := by decide +kernel
theorem dX9_dataComes_26 : decode cX9_dataComes 26 = .ok (.bipush 32, 2) := by decide +kernel
theorem dX9_dataComes_28 : decode cX9_dataComes 28 = .ok (.iand, 1) := by decide +kernel
theorem dX9_dataComes_29 : decode cX9_dataComes 29 = .ok (.ifCond .eq 7, 3) := by decide +kernel
theorem dX9_dataComes_32 : decode cX9_dataComes 32 = .ok (.iconst 1, 1) := by decide +kernel
theorem dX9_dataComes_33 : decode cX9_dataComes 33 = .ok (.goto 4, 3) := by decide +kernel
theorem dX9_dataComes_36 : decode cX9_dataComes 36 = .ok (.iconst 0, 1) := by decide +kernel
theorem dX9_dataComes_37 : decode cX9_dataComes 37 = .ok (.istore 8, 2) := by decide +kernel
theorem dX9_dataComes_39 : decode cX9_dataComes 39 = .ok (.aload_n 0, 1) := by decide +kernel
theorem dX9_dataComes_40 : decode cX9_dataComes 40 = .ok (.getfield 107, 3) := by decide +kernel
theorem dX9_dataComes_43 : decode cX9_dataComes 43 = .ok (.iload 6, 2) := by decide +kernel
theorem dX9_dataComes_45 : decode cX9_dataComes 45 = .ok (.iaload, 1) := by decide +kernel
theorem dX9_dataComes_46 : decode cX9_dataComes 46 = .ok (.aload_n 3, 1) := by decide +kernel
theorem dX9_dataComes_47 : decode cX9_dataComes 47 = .ok (.iload 4, 2) := by decide +kernel
theorem dX9_dataComes_49 : decode cX9_dataComes 49 = .ok (.iconst 1, 1) := by decide +kernel
theorem dX9_dataComes_50 : decode cX9_dataComes 50 = .ok (.iadd, 1) := by decide +kernel
theorem dX9_dataComes_51 : decode cX9_dataComes 51 = .ok (.iaload, 1) := by decide +kernel
theorem dX9_dataComes_52 : decode cX9_dataComes 52 = .ok (.bipush 63, 2) := by decide +kernel
theorem dX9_dataComes_54 : decode cX9_dataComes 54 = .ok (.iand, 1) := by decide +kernel
theorem dX9_dataComes_55 : decode cX9_dataComes 55 = .ok (.invokestatic 316, 3) := by decide +kernel
theorem dX9_dataComes_58 : decode cX9_dataComes 58 = .ok (.istore 9, 2) := by decide +kernel
theorem dX9_dataComes_60 : decode cX9_dataComes 60 = .ok (.iload 9, 2) := by decide +kernel
theorem dX9_dataComes_62 : decode cX9_dataComes 62 = .ok (.aload_n 0, 1) := by decide +kernel
theorem dX9_dataComes_63 : decode cX9_dataComes 63 = .ok (.getfield 107, 3) := by decide +kernel
theorem dX9_dataComes_66 : decode cX9_dataComes 66 = .ok (.iload 6, 2) := by decide +kernel
theorem dX9_dataComes_68 : decode cX9_dataComes 68 = .ok (.iaload, 1) := by decide +kernel
theorem dX9_dataComes_69 : decode cX9_dataComes 69 = .ok (.bipush 32, 2) := by decide +kernel
theorem dX9_dataComes_71 : decode cX9_dataComes 71 = .ok (.iadd, 1) := by decide +kernel
theorem dX9_dataComes_72 : decode cX9_dataComes 72 = .ok (.if_icmp .lt 28, 3) := by decide +kernel
theorem dX9_dataComes_75 : decode cX9_dataComes 75 = .ok (.aload_n 0, 1) := by decide +kernel
theorem dX9_dataComes_76 : decode cX9_dataComes 76 = .ok (.getfield 134, 3) := by decide +kernel
theorem dX9_dataComes_79 : decode cX9_dataComes 79 = .ok (.iload 6, 2) := by decide +kernel
theorem dX9_dataComes_81 : decode cX9_dataComes 81 = .ok (.dup2, 1) := by decide +kernel
theorem dX9_dataComes_82 : decode cX9_dataComes 82 = .ok (.iaload, 1) := by decide +kernel
theorem dX9_dataComes_83 : decode cX9_dataComes 83 = .ok (.iconst 1, 1) := by decide +kernel
theorem dX9_dataComes_84 : decode cX9_dataComes 84 = .ok (.iadd, 1) := by decide +kernel
theorem dX9_dataComes_85 : decode cX9_dataComes 85 = .ok (.iastore, 1) := by decide +kernel
theorem dX9_dataComes_86 : decode cX9_dataComes 86 = .ok (.iload 8, 2) := by decide +kernel
theorem dX9_dataComes_88 : decode cX9_dataComes 88 = .ok (.ifCond .eq 11, 3) := by decide +kernel
theorem dX9_dataComes_91 : decode cX9_dataComes 91 = .ok (.aload_n 0, 1) := by decide +kernel
theorem dX9_dataComes_92 : decode cX9_dataComes 92 = .ok (.getfield 137, 3) := by decide +kernel
theorem dX9_dataComes_95 : decode cX9_dataComes 95 = .ok (.iload 6, 2) := by decide +kernel
theorem dX9_dataComes_97 : decode cX9_dataComes 97 = .ok (.iconst 1, 1) := by decide +kernel
theorem dX9_dataComes_98 : decode cX9_dataComes 98 = .ok (.bastore, 1) := by decide +kernel
theorem dX9_dataComes_99 : decode cX9_dataComes 99 = .ok (.return_, 1) := by decide +kernel
theorem dX9_dataComes_100 : decode cX9_dataComes 100 = .ok (.aload_n 0, 1) := by decide +kernel
theorem dX9_dataComes_101 : decode cX9_dataComes 101 = .ok (.iload 6, 2) := by decide +kernel
theorem dX9_dataComes_103 : decode cX9_dataComes 103 = .ok (.iload 9, 2) := by decide +kernel
theorem dX9_dataComes_105 : decode cX9_dataComes 105 = .ok (.aload_n 3, 1) := by decide +kernel
theorem dX9_dataComes_106 : decode cX9_dataComes 106 = .ok (.iload 4, 2) := by decide +kernel
theorem dX9_dataComes_108 : decode cX9_dataComes 108 = .ok (.iload 5, 2) := by decide +kernel
theorem dX9_dataComes_110 : decode cX9_dataComes 110 = .ok (.invokevirtual 333, 3) := by decide +kernel
theorem dX9_dataComes_113 : decode cX9_dataComes 113 = .ok (.ifCond .ne 14, 3) := by decide +kernel
theorem dX9_dataComes_116 : decode cX9_dataComes 116 = .ok (.aload_n 0, 1) := by decide +kernel
theorem dX9_dataComes_117 : decode cX9_dataComes 117 = .ok (.getfield 134, 3) := by decide +kernel
theorem dX9_dataComes_120 : decode cX9_dataComes 120 = .ok (.iload 6, 2) := by decide +kernel
theorem dX9_dataComes_122 : decode cX9_dataComes 122 = .ok (.dup2, 1) := by decide +kernel
theorem dX9_dataComes_123 : decode cX9_dataComes 123 = .ok (.iaload, 1) := by decide +kernel
theorem dX9_dataComes_124 : decode cX9_dataComes 124 = .ok (.iconst 1, 1) := by decide +kernel
theorem dX9_dataComes_125 : decode cX9_dataComes 125 = .ok (.iadd, 1) := by decide +kernel
theorem dX9_dataComes_126 : decode cX9_dataComes 126 = .ok (.iastore, 1) := by decide +kernel
theorem dX9_dataComes_127 : decode cX9_dataComes 127 = .ok (.iload 9, 2) := by decide +kernel
theorem dX9_dataComes_129 : decode cX9_dataComes 129 = .ok (.aload_n 0, 1) := by decide +kernel
theorem dX9_dataComes_130 : decode cX9_dataComes 130 = .ok (.getfield 110, 3) := by decide +kernel
theorem dX9_dataComes_133 : decode cX9_dataComes 133 = .ok (.iload 6, 2) := by decide +kernel
theorem dX9_dataComes_135 : decode cX9_dataComes 135 = .ok (.iaload, 1) := by decide +kernel
theorem dX9_dataComes_136 : decode cX9_dataComes 136 = .ok (.if_icmp .lt 14, 3) := by decide +kernel
theorem dX9_dataComes_139 : decode cX9_dataComes 139 = .ok (.aload_n 0, 1) := by decide +kernel
theorem dX9_dataComes_140 : decode cX9_dataComes 140 = .ok (.getfield 110, 3) := by decide +kernel
theorem dX9_dataComes_143 : decode cX9_dataComes 143 = .ok (.iload 6, 2) := by decide +kernel
theorem dX9_dataComes_145 : decode cX9_dataComes 145 = .ok (.iload 9, 2) := by decide +kernel
theorem dX9_dataComes_147 : decode cX9_dataComes 147 = .ok (.iconst 1, 1) := by decide +kernel
theorem dX9_dataComes_148 : decode cX9_dataComes 148 = .ok (.iadd, 1) := by decide +kernel
theorem dX9_dataComes_149 : decode cX9_dataComes 149 = .ok (.iastore, 1) := by decide +kernel
theorem dX9_dataComes_150 : decode cX9_dataComes 150 = .ok (.aload_n 0, 1) := by decide +kernel
theorem dX9_dataComes_151 : decode cX9_dataComes 151 = .ok (.iload 6, 2) := by decide +kernel
theorem dX9_dataComes_153 : decode cX9_dataComes 153 = .ok (.invokevirtual 337, 3) := by decide +kernel
theorem dX9_dataComes_156 : decode cX9_dataComes 156 = .ok (.aload_n 0, 1) := by decide +kernel
theorem dX9_dataComes_157 : decode cX9_dataComes 157 = .ok (.iload 6, 2) := by decide +kernel
theorem dX9_dataComes_159 : decode cX9_dataComes 159 = .ok (.aload_n 0, 1) := by decide +kernel
theorem dX9_dataComes_160 : decode cX9_dataComes 160 = .ok (.getfield 107, 3) := by decide +kernel
theorem dX9_dataComes_163 : decode cX9_dataComes 163 = .ok (.iload 6, 2) := by decide +kernel
theorem dX9_dataComes_165 : decode cX9_dataComes 165 = .ok (.iaload, 1) := by decide +kernel
theorem dX9_dataComes_166 : decode cX9_dataComes 166 = .ok (.invokevirtual 306, 3) := by decide +kernel
theorem dX9_dataComes_169 : decode cX9_dataComes 169 = .ok (.ifCond .eq 43, 3) := by decide +kernel
theorem dX9_dataComes_172 : decode cX9_dataComes 172 = .ok (.aload_n 0, 1) := by decide +kernel
theorem dX9_dataComes_173 : decode cX9_dataComes 173 = .ok (.iload_n 1, 1) := by decide +kernel
theorem dX9_dataComes_174 : decode cX9_dataComes 174 = .ok (.iload_n 2, 1) := by decide +kernel
theorem dX9_dataComes_175 : decode cX9_dataComes 175 = .ok (.aload_n 0, 1) := by decide +kernel
theorem dX9_dataComes_176 : decode cX9_dataComes 176 = .ok (.getfield 107, 3) := by decide +kernel
theorem dX9_dataComes_179 : decode cX9_dataComes 179 = .ok (.iload 6, 2) := by decide +kernel
theorem dX9_dataComes_181 : decode cX9_dataComes 181 = .ok (.iaload, 1) := by decide +kernel
theorem dX9_dataComes_182 : decode cX9_dataComes 182 = .ok (.invokevirtual 341, 3) := by decide +kernel
theorem dX9_dataComes_185 : decode cX9_dataComes 185 = .ok (.aload_n 0, 1) := by decide +kernel
theorem dX9_dataComes_186 : decode cX9_dataComes 186 = .ok (.iload 6, 2) := by decide +kernel
theorem dX9_dataComes_188 : decode cX9_dataComes 188 = .ok (.aload_n 0, 1) := by decide +kernel
theorem dX9_dataComes_189 : decode cX9_dataComes 189 = .ok (.getfield 107, 3) := by decide +kernel
theorem dX9_dataComes_192 : decode cX9_dataComes 192 = .ok (.iload 6, 2) := by decide +kernel
theorem dX9_dataComes_194 : decode cX9_dataComes 194 = .ok (.iaload, 1) := by decide +kernel
theorem dX9_dataComes_195 : decode cX9_dataComes 195 = .ok (.invokevirtual 344, 3) := by decide +kernel
theorem dX9_dataComes_198 : decode cX9_dataComes 198 = .ok (.aload_n 0, 1) := by decide +kernel
theorem dX9_dataComes_199 : decode cX9_dataComes 199 = .ok (.getfield 107, 3) := by decide +kernel
theorem dX9_dataComes_202 : decode cX9_dataComes 202 = .ok (.iload 6, 2) := by decide +kernel
theorem dX9_dataComes_204 : decode cX9_dataComes 204 = .ok (.dup2, 1) := by decide +kernel
theorem dX9_dataComes_205 : decode cX9_dataComes 205 = .ok (.iaload, 1) := by decide +kernel
theorem dX9_dataComes_206 : decode cX9_dataComes 206 = .ok (.iconst 1, 1) := by decide +kernel
theorem dX9_dataComes_207 : decode cX9_dataComes 207 = .ok (.iadd, 1) := by decide +kernel
theorem dX9_dataComes_208 : decode cX9_dataComes 208 = .ok (.iastore, 1) := by decide +kernel
theorem dX9_dataComes_209 : decode cX9_dataComes 209 = .ok (.goto (-53), 3) := by decide +kernel
theorem dX9_dataComes_212 : decode cX9_dataComes 212 = .ok (.aload_n 0, 1) := by decide +kernel
theorem dX9_dataComes_213 : decode cX9_dataComes 213 = .ok (.getfield 113, 3) := by decide +kernel
theorem dX9_dataComes_216 : decode cX9_dataComes 216 = .ok (.iload 6, 2) := by decide +kernel
theorem dX9_dataComes_218 : decode cX9_dataComes 218 = .ok (.iaload, 1) := by decide +kernel
theorem dX9_dataComes_219 : decode cX9_dataComes 219 = .ok (.aload_n 0, 1) := by decide +kernel
theorem dX9_dataComes_220 : decode cX9_dataComes 220 = .ok (.getfield 107, 3) := by decide +kernel
theorem dX9_dataComes_223 : decode cX9_dataComes 223 = .ok (.iload 6, 2) := by decide +kernel
theorem dX9_dataComes_225 : decode cX9_dataComes 225 = .ok (.iaload, 1) := by decide +kernel
theorem dX9_dataComes_226 : decode cX9_dataComes 226 = .ok (.if_icmp .ge 17, 3) := by decide +kernel
theorem dX9_dataComes_229 : decode cX9_dataComes 229 = .ok (.aload_n 0, 1) := by decide +kernel
theorem dX9_dataComes_230 : decode cX9_dataComes 230 = .ok (.getfield 113, 3) := by decide +kernel
theorem dX9_dataComes_233 : decode cX9_dataComes 233 = .ok (.iload 6, 2) := by decide +kernel
theorem dX9_dataComes_235 : decode cX9_dataComes 235 = .ok (.aload_n 0, 1) := by decide +kernel
theorem dX9_dataComes_236 : decode cX9_dataComes 236 = .ok (.getfield 107, 3) := by decide +kernel
theorem dX9_dataComes_239 : decode cX9_dataComes 239 = .ok (.iload 6, 2) := by decide +kernel
theorem dX9_dataComes_241 : decode cX9_dataComes 241 = .ok (.iaload, 1) := by decide +kernel
theorem dX9_dataComes_242 : decode cX9_dataComes 242 = .ok (.iastore, 1) := by decide +kernel
theorem dX9_dataComes_243 : decode cX9_dataComes 243 = .ok (.aload_n 0, 1) := by decide +kernel
theorem dX9_dataComes_244 : decode cX9_dataComes 244 = .ok (.getfield 119, 3) := by decide +kernel
theorem dX9_dataComes_247 : decode cX9_dataComes 247 = .ok (.iload 6, 2) := by decide +kernel
theorem dX9_dataComes_249 : decode cX9_dataComes 249 = .ok (.iaload, 1) := by decide +kernel
theorem dX9_dataComes_250 : decode cX9_dataComes 250 = .ok (.ifCond .le 28, 3) := by decide +kernel
theorem dX9_dataComes_253 : decode cX9_dataComes 253 = .ok (.aload_n 0, 1) := by decide +kernel
theorem dX9_dataComes_254 : decode cX9_dataComes 254 = .ok (.getfield 116, 3) := by decide +kernel
theorem dX9_dataComes_257 : decode cX9_dataComes 257 = .ok (.iload 6, 2) := by decide +kernel
theorem dX9_dataComes_259 : decode cX9_dataComes 259 = .ok (.iaload, 1) := by decide +kernel
theorem dX9_dataComes_260 : decode cX9_dataComes 260 = .ok (.aload_n 0, 1) := by decide +kernel
theorem dX9_dataComes_261 : decode cX9_dataComes 261 = .ok (.getfield 107, 3) := by decide +kernel
theorem dX9_dataComes_264 : decode cX9_dataComes 264 = .ok (.iload 6, 2) := by decide +kernel
theorem dX9_dataComes_266 : decode cX9_dataComes 266 = .ok (.iaload, 1) := by decide +kernel
theorem dX9_dataComes_267 : decode cX9_dataComes 267 = .ok (.if_icmp .gt 11, 3) := by decide +kernel
theorem dX9_dataComes_270 : decode cX9_dataComes 270 = .ok (.aload_n 0, 1) := by decide +kernel
theorem dX9_dataComes_271 : decode cX9_dataComes 271 = .ok (.getfield 119, 3) := by decide +kernel
theorem dX9_dataComes_274 : decode cX9_dataComes 274 = .ok (.iload 6, 2) := by decide +kernel
theorem dX9_dataComes_276 : decode cX9_dataComes 276 = .ok (.iconst 0, 1) := by decide +kernel
theorem dX9_dataComes_277 : decode cX9_dataComes 277 = .ok (.iastore, 1) := by decide +kernel
theorem dX9_dataComes_278 : decode cX9_dataComes 278 = .ok (.aload_n 0, 1) := by decide +kernel
theorem dX9_dataComes_279 : decode cX9_dataComes 279 = .ok (.getfield 119, 3) := by decide +kernel
theorem dX9_dataComes_282 : decode cX9_dataComes 282 = .ok (.iload 6, 2) := by decide +kernel
theorem dX9_dataComes_284 : decode cX9_dataComes 284 = .ok (.iaload, 1) := by decide +kernel
theorem dX9_dataComes_285 : decode cX9_dataComes 285 = .ok (.ifCond .ne 43, 3) := by decide +kernel
theorem dX9_dataComes_288 : decode cX9_dataComes 288 = .ok (.aload_n 0, 1) := by decide +kernel
theorem dX9_dataComes_289 : decode cX9_dataComes 289 = .ok (.getfield 110, 3) := by decide +kernel
theorem dX9_dataComes_292 : decode cX9_dataComes 292 = .ok (.iload 6, 2) := by decide +kernel
theorem dX9_dataComes_294 : decode cX9_dataComes 294 = .ok (.iaload, 1) := by decide +kernel
theorem dX9_dataComes_295 : decode cX9_dataComes 295 = .ok (.aload_n 0, 1) := by decide +kernel
theorem dX9_dataComes_296 : decode cX9_dataComes 296 = .ok (.getfield 107, 3) := by decide +kernel
theorem dX9_dataComes_299 : decode cX9_dataComes 299 = .ok (.iload 6, 2) := by decide +kernel
theorem dX9_dataComes_301 : decode cX9_dataComes 301 = .ok (.iaload, 1) := by decide +kernel
theorem dX9_dataComes_302 : decode cX9_dataComes 302 = .ok (.if_icmp .le 26, 3) := by decide +kernel
theorem dX9_dataComes_305 : decode cX9_dataComes 305 = .ok (.aload_n 0, 1) := by decide +kernel
theorem dX9_dataComes_306 : decode cX9_dataComes 306 = .ok (.getfield 119, 3) := by decide +kernel
theorem dX9_dataComes_309 : decode cX9_dataComes 309 = .ok (.iload 6, 2) := by decide +kernel
theorem dX9_dataComes_311 : decode cX9_dataComes 311 = .ok (.bipush 6, 2) := by decide +kernel
theorem dX9_dataComes_313 : decode cX9_dataComes 313 = .ok (.iastore, 1) := by decide +kernel
theorem dX9_dataComes_314 : decode cX9_dataComes 314 = .ok (.aload_n 0, 1) := by decide +kernel
theorem dX9_dataComes_315 : decode cX9_dataComes 315 = .ok (.getfield 116, 3) := by decide +kernel
theorem dX9_dataComes_318 : decode cX9_dataComes 318 = .ok (.iload 6, 2) := by decide +kernel
theorem dX9_dataComes_320 : decode cX9_dataComes 320 = .ok (.aload_n 0, 1) := by decide +kernel
theorem dX9_dataComes_321 : decode cX9_dataComes 321 = .ok (.getfield 110, 3) := by decide +kernel
theorem dX9_dataComes_324 : decode cX9_dataComes 324 = .ok (.iload 6, 2) := by decide +kernel
theorem dX9_dataComes_326 : decode cX9_dataComes 326 = .ok (.iaload, 1) := by decide +kernel
theorem dX9_dataComes_327 : decode cX9_dataComes 327 = .ok (.iastore, 1) := by decide +kernel
theorem dX9_dataComes_328 : decode cX9_dataComes 328 = .ok (.iload 8, 2) := by decide +kernel
theorem dX9_dataComes_330 : decode cX9_dataComes 330 = .ok (.ifCond .eq 12, 3) := by decide +kernel
theorem dX9_dataComes_333 : decode cX9_dataComes 333 = .ok (.aload_n 0, 1) := by decide +kernel
theorem dX9_dataComes_334 : decode cX9_dataComes 334 = .ok (.getfield 125, 3) := by decide +kernel
theorem dX9_dataComes_337 : decode cX9_dataComes 337 = .ok (.iload 6, 2) := by decide +kernel
theorem dX9_dataComes_339 : decode cX9_dataComes 339 = .ok (.iload 9, 2) := by decide +kernel
theorem dX9_dataComes_341 : decode cX9_dataComes 341 = .ok (.iastore, 1) := by decide +kernel
theorem dX9_dataComes_342 : decode cX9_dataComes 342 = .ok (.aload_n 0, 1) := by decide +kernel
theorem dX9_dataComes_343 : decode cX9_dataComes 343 = .ok (.iload 6, 2) := by decide +kernel
theorem dX9_dataComes_345 : decode cX9_dataComes 345 = .ok (.invokevirtual 347, 3) := by decide +kernel
theorem dX9_dataComes_348 : decode cX9_dataComes 348 = .ok (.return_, 1) := by decide +kernel
theorem dX9_lays_0 : decode cX9_lays 0 = .ok (.aload_n 3, 1) := by decide +kernel
theorem dX9_lays_1 : decode cX9_lays 1 = .ok (.iload 4, 2) := by decide +kernel
theorem dX9_lays_3 : decode cX9_lays 3 = .ok (.iaload, 1) := by decide +kernel
theorem dX9_lays_4 : decode cX9_lays 4 = .ok (.istore 6, 2) := by decide +kernel
theorem dX9_lays_6 : decode cX9_lays 6 = .ok (.iload 6, 2) := by decide +kernel
theorem dX9_lays_8 : decode cX9_lays 8 = .ok (.bipush 64, 2) := by decide +kernel
theorem dX9_lays_10 : decode cX9_lays 10 = .ok (.iand, 1) := by decide +kernel
theorem dX9_lays_11 : decode cX9_lays 11 = .ok (.ifCond .eq 7, 3) := by decide +kernel
theorem dX9_lays_14 : decode cX9_lays 14 = .ok (.iconst 1, 1) := by decide +kernel
theorem dX9_lays_15 : decode cX9_lays 15 = .ok (.goto 4, 3) := by decide +kernel
theorem dX9_lays_18 : decode cX9_lays 18 = .ok (.iconst 0, 1) := by decide +kernel
theorem dX9_lays_19 : decode cX9_lays 19 = .ok (.istore 7, 2) := by decide +kernel
theorem dX9_lays_21 : decode cX9_lays 21 = .ok (.bipush 32, 2) := by decide +kernel
theorem dX9_lays_23 : decode cX9_lays 23 = .ok (.iload_n 1, 1) := by decide +kernel
theorem dX9_lays_24 : decode cX9_lays 24 = .ok (.imul, 1) := by decide +kernel
theorem dX9_lays_25 : decode cX9_lays 25 = .ok (.iload_n 2, 1) := by decide +kernel
theorem dX9_lays_26 : decode cX9_lays 26 = .ok (.bipush 31, 2) := by decide +kernel
theorem dX9_lays_28 : decode cX9_lays 28 = .ok (.iand, 1) := by decide +kernel
theorem dX9_lays_29 : decode cX9_lays 29 = .ok (.iadd, 1) := by decide +kernel
theorem dX9_lays_30 : decode cX9_lays 30 = .ok (.istore 8, 2) := by decide +kernel
theorem dX9_lays_32 : decode cX9_lays 32 = .ok (.iload 4, 2) := by decide +kernel
theorem dX9_lays_34 : decode cX9_lays 34 = .ok (.iconst 2, 1) := by decide +kernel
theorem dX9_lays_35 : decode cX9_lays 35 = .ok (.iadd, 1) := by decide +kernel
theorem dX9_lays_36 : decode cX9_lays 36 = .ok (.istore 9, 2) := by decide +kernel
theorem dX9_lays_38 : decode cX9_lays 38 = .ok (.iconst 0, 1) := by decide +kernel
theorem dX9_lays_39 : decode cX9_lays 39 = .ok (.istore 10, 2) := by decide +kernel
theorem dX9_lays_41 : decode cX9_lays 41 = .ok (.iload 7, 2) := by decide +kernel
theorem dX9_lays_43 : decode cX9_lays 43 = .ok (.ifCond .eq 12, 3) := by decide +kernel
theorem dX9_lays_46 : decode cX9_lays 46 = .ok (.aload_n 3, 1) := by decide +kernel
theorem dX9_lays_47 : decode cX9_lays 47 = .ok (.iload 9, 2) := by decide +kernel
theorem dX9_lays_49 : decode cX9_lays 49 = .ok (.iaload, 1) := by decide +kernel
theorem dX9_lays_50 : decode cX9_lays 50 = .ok (.istore 10, 2) := by decide +kernel
theorem dX9_lays_52 : decode cX9_lays 52 = .ok (.iinc 9 1, 3) := by decide +kernel
theorem dX9_lays_55 : decode cX9_lays 55 = .ok (.iload 9, 2) := by decide +kernel
theorem dX9_lays_57 : decode cX9_lays 57 = .ok (.istore 11, 2) := by decide +kernel
theorem dX9_lays_59 : decode cX9_lays 59 = .ok (.iload 6, 2) := by decide +kernel
theorem dX9_lays_61 : decode cX9_lays 61 = .ok (.iconst 4, 1) := by decide +kernel
theorem dX9_lays_62 : decode cX9_lays 62 = .ok (.iand, 1) := by decide +kernel
theorem dX9_lays_63 : decode cX9_lays 63 = .ok (.ifCond .eq 7, 3) := by decide +kernel
theorem dX9_lays_66 : decode cX9_lays 66 = .ok (.iconst 1, 1) := by decide +kernel
theorem dX9_lays_67 : decode cX9_lays 67 = .ok (.goto 4, 3) := by decide +kernel
theorem dX9_lays_70 : decode cX9_lays 70 = .ok (.iconst 0, 1) := by decide +kernel
theorem dX9_lays_71 : decode cX9_lays 71 = .ok (.istore 12, 2) := by decide +kernel
theorem dX9_lays_73 : decode cX9_lays 73 = .ok (.iload 12, 2) := by decide +kernel
theorem dX9_lays_75 : decode cX9_lays 75 = .ok (.ifCond .eq 25, 3) := by decide +kernel
theorem dX9_lays_78 : decode cX9_lays 78 = .ok (.aload_n 3, 1) := by decide +kernel
theorem dX9_lays_79 : decode cX9_lays 79 = .ok (.iload 9, 2) := by decide +kernel
theorem dX9_lays_81 : decode cX9_lays 81 = .ok (.iaload, 1) := by decide +kernel
theorem dX9_lays_82 : decode cX9_lays 82 = .ok (.bipush 127, 2) := by decide +kernel
theorem dX9_lays_84 : decode cX9_lays 84 = .ok (.if_icmp .le 7, 3) := by decide +kernel
theorem dX9_lays_87 : decode cX9_lays 87 = .ok (.iconst 1, 1) := by decide +kernel
theorem dX9_lays_88 : decode cX9_lays 88 = .ok (.goto 4, 3) := by decide +kernel
theorem dX9_lays_91 : decode cX9_lays 91 = .ok (.iconst 0, 1) := by decide +kernel
theorem dX9_lays_92 : decode cX9_lays 92 = .ok (.istore 12, 2) := by decide +kernel
theorem dX9_lays_94 : decode cX9_lays 94 = .ok (.iinc 9 1, 3) := by decide +kernel
theorem dX9_lays_97 : decode cX9_lays 97 = .ok (.goto (-24), 3) := by decide +kernel
theorem dX9_lays_100 : decode cX9_lays 100 = .ok (.iload 4, 2) := by decide +kernel
theorem dX9_lays_102 : decode cX9_lays 102 = .ok (.iload 5, 2) := by decide +kernel
theorem dX9_lays_104 : decode cX9_lays 104 = .ok (.iadd, 1) := by decide +kernel
theorem dX9_lays_105 : decode cX9_lays 105 = .ok (.iload 9, 2) := by decide +kernel
theorem dX9_lays_107 : decode cX9_lays 107 = .ok (.isub, 1) := by decide +kernel
theorem dX9_lays_108 : decode cX9_lays 108 = .ok (.istore 13, 2) := by decide +kernel
theorem dX9_lays_110 : decode cX9_lays 110 = .ok (.iload 7, 2) := by decide +kernel
theorem dX9_lays_112 : decode cX9_lays 112 = .ok (.ifCond .eq 14, 3) := by decide +kernel
theorem dX9_lays_115 : decode cX9_lays 115 = .ok (.aload_n 3, 1) := by decide +kernel
theorem dX9_lays_116 : decode cX9_lays 116 = .ok (.iload 4, 2) := by decide +kernel
theorem dX9_lays_118 : decode cX9_lays 118 = .ok (.iconst 1, 1) := by decide +kernel
theorem dX9_lays_119 : decode cX9_lays 119 = .ok (.iadd, 1) := by decide +kernel
theorem dX9_lays_120 : decode cX9_lays 120 = .ok (.iaload, 1) := by decide +kernel
theorem dX9_lays_121 : decode cX9_lays 121 = .ok (.bipush 127, 2) := by decide +kernel
theorem dX9_lays_123 : decode cX9_lays 123 = .ok (.if_icmp .le 15, 3) := by decide +kernel
theorem dX9_lays_126 : decode cX9_lays 126 = .ok (.aload_n 0, 1) := by decide +kernel
theorem dX9_lays_127 : decode cX9_lays 127 = .ok (.getfield 140, 3) := by decide +kernel
theorem dX9_lays_130 : decode cX9_lays 130 = .ok (.iload 8, 2) := by decide +kernel
theorem dX9_lays_132 : decode cX9_lays 132 = .ok (.iload 10, 2) := by decide +kernel
theorem dX9_lays_134 : decode cX9_lays 134 = .ok (.iload 13, 2) := by decide +kernel
theorem dX9_lays_136 : decode cX9_lays 136 = .ok (.iadd, 1) := by decide +kernel
theorem dX9_lays_137 : decode cX9_lays 137 = .ok (.iastore, 1) := by decide +kernel
theorem dX9_lays_138 : decode cX9_lays 138 = .ok (.iconst 0, 1) := by decide +kernel
theorem dX9_lays_139 : decode cX9_lays 139 = .ok (.istore 14, 2) := by decide +kernel
theorem dX9_lays_141 : decode cX9_lays 141 = .ok (.iconst 0, 1) := by decide +kernel
theorem dX9_lays_142 : decode cX9_lays 142 = .ok (.istore 15, 2) := by decide +kernel
theorem dX9_lays_144 : decode cX9_lays 144 = .ok (.iload 15, 2) := by decide +kernel
theorem dX9_lays_146 : decode cX9_lays 146 = .ok (.iload 13, 2) := by decide +kernel
theorem dX9_lays_148 : decode cX9_lays 148 = .ok (.if_icmp .ge 115, 3) := by decide +kernel
theorem dX9_lays_151 : decode cX9_lays 151 = .ok (.sipush 240, 3) := by decide +kernel
theorem dX9_lays_154 : decode cX9_lays 154 = .ok (.iload 8, 2) := by decide +kernel
theorem dX9_lays_156 : decode cX9_lays 156 = .ok (.imul, 1) := by decide +kernel
theorem dX9_lays_157 : decode cX9_lays 157 = .ok (.iload 10, 2) := by decide +kernel
theorem dX9_lays_159 : decode cX9_lays 159 = .ok (.iadd, 1) := by decide +kernel
theorem dX9_lays_160 : decode cX9_lays 160 = .ok (.iload 15, 2) := by decide +kernel
theorem dX9_lays_162 : decode cX9_lays 162 = .ok (.iadd, 1) := by decide +kernel
theorem dX9_lays_163 : decode cX9_lays 163 = .ok (.istore 16, 2) := by decide +kernel
theorem dX9_lays_165 : decode cX9_lays 165 = .ok (.aload_n 0, 1) := by decide +kernel
theorem dX9_lays_166 : decode cX9_lays 166 = .ok (.getfield 147, 3) := by decide +kernel
theorem dX9_lays_169 : decode cX9_lays 169 = .ok (.iload 16, 2) := by decide +kernel
theorem dX9_lays_171 : decode cX9_lays 171 = .ok (.baload, 1) := by decide +kernel
theorem dX9_lays_172 : decode cX9_lays 172 = .ok (.ifCond .eq 6, 3) := by decide +kernel
theorem dX9_lays_175 : decode cX9_lays 175 = .ok (.goto 82, 3) := by decide +kernel
theorem dX9_lays_178 : decode cX9_lays 178 = .ok (.iconst 1, 1) := by decide +kernel
theorem dX9_lays_179 : decode cX9_lays 179 = .ok (.istore 14, 2) := by decide +kernel
theorem dX9_lays_181 : decode cX9_lays 181 = .ok (.aload_n 0, 1) := by decide +kernel
theorem dX9_lays_182 : decode cX9_lays 182 = .ok (.getfield 147, 3) := by decide +kernel
theorem dX9_lays_185 : decode cX9_lays 185 = .ok (.iload 16, 2) := by decide +kernel
theorem dX9_lays_187 : decode cX9_lays 187 = .ok (.iconst 1, 1) := by decide +kernel
theorem dX9_lays_188 : decode cX9_lays 188 = .ok (.bastore, 1) := by decide +kernel
theorem dX9_lays_189 : decode cX9_lays 189 = .ok (.aload_n 0, 1) := by decide +kernel
theorem dX9_lays_190 : decode cX9_lays 190 = .ok (.getfield 144, 3) := by decide +kernel
theorem dX9_lays_193 : decode cX9_lays 193 = .ok (.iload 16, 2) := by decide +kernel
theorem dX9_lays_195 : decode cX9_lays 195 = .ok (.aload_n 3, 1) := by decide +kernel
theorem dX9_lays_196 : decode cX9_lays 196 = .ok (.iload 9, 2) := by decide +kernel
theorem dX9_lays_198 : decode cX9_lays 198 = .ok (.iload 15, 2) := by decide +kernel
theorem dX9_lays_200 : decode cX9_lays 200 = .ok (.iadd, 1) := by decide +kernel
theorem dX9_lays_201 : decode cX9_lays 201 = .ok (.iaload, 1) := by decide +kernel
theorem dX9_lays_202 : decode cX9_lays 202 = .ok (.iastore, 1) := by decide +kernel
theorem dX9_lays_203 : decode cX9_lays 203 = .ok (.aload_n 0, 1) := by decide +kernel
theorem dX9_lays_204 : decode cX9_lays 204 = .ok (.getfield 150, 3) := by decide +kernel
theorem dX9_lays_207 : decode cX9_lays 207 = .ok (.iload 16, 2) := by decide +kernel
theorem dX9_lays_209 : decode cX9_lays 209 = .ok (.iload 15, 2) := by decide +kernel
theorem dX9_lays_211 : decode cX9_lays 211 = .ok (.ifCond .ne 15, 3) := by decide +kernel
theorem dX9_lays_214 : decode cX9_lays 214 = .ok (.iload 6, 2) := by decide +kernel
theorem dX9_lays_216 : decode cX9_lays 216 = .ok (.bipush 16, 2) := by decide +kernel
theorem dX9_lays_218 : decode cX9_lays 218 = .ok (.iand, 1) := by decide +kernel
theorem dX9_lays_219 : decode cX9_lays 219 = .ok (.ifCond .ne 7, 3) := by decide +kernel
theorem dX9_lays_222 : decode cX9_lays 222 = .ok (.iconst 1, 1) := by decide +kernel
theorem dX9_lays_223 : decode cX9_lays 223 = .ok (.goto 4, 3) := by decide +kernel
theorem dX9_lays_226 : decode cX9_lays 226 = .ok (.iconst 0, 1) := by decide +kernel
theorem dX9_lays_227 : decode cX9_lays 227 = .ok (.bastore, 1) := by decide +kernel
theorem dX9_lays_228 : decode cX9_lays 228 = .ok (.aload_n 0, 1) := by decide +kernel
theorem dX9_lays_229 : decode cX9_lays 229 = .ok (.getfield 153, 3) := by decide +kernel
theorem dX9_lays_232 : decode cX9_lays 232 = .ok (.iload 16, 2) := by decide +kernel
theorem dX9_lays_234 : decode cX9_lays 234 = .ok (.iload 15, 2) := by decide +kernel
theorem dX9_lays_236 : decode cX9_lays 236 = .ok (.iconst 1, 1) := by decide +kernel
theorem dX9_lays_237 : decode cX9_lays 237 = .ok (.iadd, 1) := by decide +kernel
theorem dX9_lays_238 : decode cX9_lays 238 = .ok (.iload 13, 2) := by decide +kernel
theorem dX9_lays_240 : decode cX9_lays 240 = .ok (.if_icmp .ne 15, 3) := by decide +kernel
theorem dX9_lays_243 : decode cX9_lays 243 = .ok (.iload 6, 2) := by decide +kernel
theorem dX9_lays_245 : decode cX9_lays 245 = .ok (.bipush 8, 2) := by decide +kernel
theorem dX9_lays_247 : decode cX9_lays 247 = .ok (.iand, 1) := by decide +kernel
theorem dX9_lays_248 : decode cX9_lays 248 = .ok (.ifCond .ne 7, 3) := by decide +kernel
theorem dX9_lays_251 : decode cX9_lays 251 = .ok (.iconst 1, 1) := by decide +kernel
theorem dX9_lays_252 : decode cX9_lays 252 = .ok (.goto 4, 3) := by decide +kernel
theorem dX9_lays_255 : decode cX9_lays 255 = .ok (.iconst 0, 1) := by decide +kernel
theorem dX9_lays_256 : decode cX9_lays 256 = .ok (.bastore, 1) := by decide +kernel
theorem dX9_lays_257 : decode cX9_lays 257 = .ok (.iinc 15 1, 3) := by decide +kernel
theorem dX9_lays_260 : decode cX9_lays 260 = .ok (.goto (-116), 3) := by decide +kernel
theorem dX9_lays_263 : decode cX9_lays 263 = .ok (.iconst 0, 1) := by decide +kernel
theorem dX9_lays_264 : decode cX9_lays 264 = .ok (.istore 15, 2) := by decide +kernel
theorem dX9_lays_266 : decode cX9_lays 266 = .ok (.iload 11, 2) := by decide +kernel
theorem dX9_lays_268 : decode cX9_lays 268 = .ok (.istore 16, 2) := by decide +kernel
theorem dX9_lays_270 : decode cX9_lays 270 = .ok (.iload 16, 2) := by decide +kernel
theorem dX9_lays_272 : decode cX9_lays 272 = .ok (.iload 9, 2) := by decide +kernel
theorem dX9_lays_274 : decode cX9_lays 274 = .ok (.if_icmp .ge 59, 3) := by decide +kernel
theorem dX9_lays_277 : decode cX9_lays 277 = .ok (.iload 15, 2) := by decide +kernel
theorem dX9_lays_279 : decode cX9_lays 279 = .ok (.aload_n 3, 1) := by decide +kernel
theorem dX9_lays_280 : decode cX9_lays 280 = .ok (.iload 16, 2) := by decide +kernel
theorem dX9_lays_282 : decode cX9_lays 282 = .ok (.iaload, 1) := by decide +kernel
theorem dX9_lays_283 : decode cX9_lays 283 = .ok (.bipush 127, 2) := by decide +kernel
theorem dX9_lays_285 : decode cX9_lays 285 = .ok (.iand, 1) := by decide +kernel
theorem dX9_lays_286 : decode cX9_lays 286 = .ok (.iadd, 1) := by decide +kernel
theorem dX9_lays_287 : decode cX9_lays 287 = .ok (.istore 15, 2) := by decide +kernel
theorem dX9_lays_289 : decode cX9_lays 289 = .ok (.aload_n 0, 1) := by decide +kernel
theorem dX9_lays_290 : decode cX9_lays 290 = .ok (.getfield 153, 3) := by decide +kernel
theorem dX9_lays_293 : decode cX9_lays 293 = .ok (.sipush 240, 3) := by decide +kernel
theorem dX9_lays_296 : decode cX9_lays 296 = .ok (.iload 8, 2) := by decide +kernel
theorem dX9_lays_298 : decode cX9_lays 298 = .ok (.imul, 1) := by decide +kernel
theorem dX9_lays_299 : decode cX9_lays 299 = .ok (.iload 10, 2) := by decide +kernel
theorem dX9_lays_301 : decode cX9_lays 301 = .ok (.iadd, 1) := by decide +kernel
theorem dX9_lays_302 : decode cX9_lays 302 = .ok (.iload 15, 2) := by decide +kernel
theorem dX9_lays_304 : decode cX9_lays 304 = .ok (.iadd, 1) := by decide +kernel
theorem dX9_lays_305 : decode cX9_lays 305 = .ok (.iconst 1, 1) := by decide +kernel
theorem dX9_lays_306 : decode cX9_lays 306 = .ok (.isub, 1) := by decide +kernel
theorem dX9_lays_307 : decode cX9_lays 307 = .ok (.iconst 1, 1) := by decide +kernel
theorem dX9_lays_308 : decode cX9_lays 308 = .ok (.bastore, 1) := by decide +kernel
theorem dX9_lays_309 : decode cX9_lays 309 = .ok (.aload_n 0, 1) := by decide +kernel
theorem dX9_lays_310 : decode cX9_lays 310 = .ok (.getfield 150, 3) := by decide +kernel
theorem dX9_lays_313 : decode cX9_lays 313 = .ok (.sipush 240, 3) := by decide +kernel
theorem dX9_lays_316 : decode cX9_lays 316 = .ok (.iload 8, 2) := by decide +kernel
theorem dX9_lays_318 : decode cX9_lays 318 = .ok (.imul, 1) := by decide +kernel
theorem dX9_lays_319 : decode cX9_lays 319 = .ok (.iload 10, 2) := by decide +kernel
theorem dX9_lays_321 : decode cX9_lays 321 = .ok (.iadd, 1) := by decide +kernel
theorem dX9_lays_322 : decode cX9_lays 322 = .ok (.iload 15, 2) := by decide +kernel
theorem dX9_lays_324 : decode cX9_lays 324 = .ok (.iadd, 1) := by decide +kernel
theorem dX9_lays_325 : decode cX9_lays 325 = .ok (.iconst 1, 1) := by decide +kernel
theorem dX9_lays_326 : decode cX9_lays 326 = .ok (.bastore, 1) := by decide +kernel
theorem dX9_lays_327 : decode cX9_lays 327 = .ok (.iinc 16 1, 3) := by decide +kernel
theorem dX9_lays_330 : decode cX9_lays 330 = .ok (.goto (-60), 3) := by decide +kernel
theorem dX9_lays_333 : decode cX9_lays 333 = .ok (.iload 14, 2) := by decide +kernel
theorem dX9_lays_335 : decode cX9_lays 335 = .ok (.ireturn, 1) := by decide +kernel
theorem dX9_clear_0 : decode cX9_clear 0 = .ok (.bipush 32, 2) := by decide +kernel
theorem dX9_clear_2 : decode cX9_clear 2 = .ok (.iload_n 1, 1) := by decide +kernel
theorem dX9_clear_3 : decode cX9_clear 3 = .ok (.imul, 1) := by decide +kernel
theorem dX9_clear_4 : decode cX9_clear 4 = .ok (.iload_n 2, 1) := by decide +kernel
theorem dX9_clear_5 : decode cX9_clear 5 = .ok (.bipush 31, 2) := by decide +kernel
theorem dX9_clear_7 : decode cX9_clear 7 = .ok (.iand, 1) := by decide +kernel
theorem dX9_clear_8 : decode cX9_clear 8 = .ok (.iadd, 1) := by decide +kernel
theorem dX9_clear_9 : decode cX9_clear 9 = .ok (.istore_n 3, 1) := by decide +kernel
theorem dX9_clear_10 : decode cX9_clear 10 = .ok (.aload_n 0, 1) := by decide +kernel
theorem dX9_clear_11 : decode cX9_clear 11 = .ok (.getfield 140, 3) := by decide +kernel
theorem dX9_clear_14 : decode cX9_clear 14 = .ok (.iload_n 3, 1) := by decide +kernel
theorem dX9_clear_15 : decode cX9_clear 15 = .ok (.iconst (-1), 1) := by decide +kernel
theorem dX9_clear_16 : decode cX9_clear 16 = .ok (.iastore, 1) := by decide +kernel
theorem dX9_clear_17 : decode cX9_clear 17 = .ok (.iconst 0, 1) := by decide +kernel
theorem dX9_clear_18 : decode cX9_clear 18 = .ok (.istore 4, 2) := by decide +kernel
theorem dX9_clear_20 : decode cX9_clear 20 = .ok (.iload 4, 2) := by decide +kernel
theorem dX9_clear_22 : decode cX9_clear 22 = .ok (.sipush 240, 3) := by decide +kernel
theorem dX9_clear_25 : decode cX9_clear 25 = .ok (.if_icmp .ge 51, 3) := by decide +kernel
theorem dX9_clear_28 : decode cX9_clear 28 = .ok (.aload_n 0, 1) := by decide +kernel
theorem dX9_clear_29 : decode cX9_clear 29 = .ok (.getfield 147, 3) := by decide +kernel
theorem dX9_clear_32 : decode cX9_clear 32 = .ok (.sipush 240, 3) := by decide +kernel
theorem dX9_clear_35 : decode cX9_clear 35 = .ok (.iload_n 3, 1) := by decide +kernel
theorem dX9_clear_36 : decode cX9_clear 36 = .ok (.imul, 1) := by decide +kernel
theorem dX9_clear_37 : decode cX9_clear 37 = .ok (.iload 4, 2) := by decide +kernel
theorem dX9_clear_39 : decode cX9_clear 39 = .ok (.iadd, 1) := by decide +kernel
theorem dX9_clear_40 : decode cX9_clear 40 = .ok (.iconst 0, 1) := by decide +kernel
theorem dX9_clear_41 : decode cX9_clear 41 = .ok (.bastore, 1) := by decide +kernel
theorem dX9_clear_42 : decode cX9_clear 42 = .ok (.aload_n 0, 1) := by decide +kernel
theorem dX9_clear_43 : decode cX9_clear 43 = .ok (.getfield 150, 3) := by decide +kernel
theorem dX9_clear_46 : decode cX9_clear 46 = .ok (.sipush 240, 3) := by decide +kernel
theorem dX9_clear_49 : decode cX9_clear 49 = .ok (.iload_n 3, 1) := by decide +kernel
theorem dX9_clear_50 : decode cX9_clear 50 = .ok (.imul, 1) := by decide +kernel
theorem dX9_clear_51 : decode cX9_clear 51 = .ok (.iload 4, 2) := by decide +kernel
theorem dX9_clear_53 : decode cX9_clear 53 = .ok (.iadd, 1) := by decide +kernel
theorem dX9_clear_54 : decode cX9_clear 54 = .ok (.iconst 0, 1) := by decide +kernel
theorem dX9_clear_55 : decode cX9_clear 55 = .ok (.bastore, 1) := by decide +kernel
theorem dX9_clear_56 : decode cX9_clear 56 = .ok (.aload_n 0, 1) := by decide +kernel
theorem dX9_clear_57 : decode cX9_clear 57 = .ok (.getfield 153, 3) := by decide +kernel
theorem dX9_clear_60 : decode cX9_clear 60 = .ok (.sipush 240, 3) := by decide +kernel
theorem dX9_clear_63 : decode cX9_clear 63 = .ok (.iload_n 3, 1) := by decide +kernel
theorem dX9_clear_64 : decode cX9_clear 64 = .ok (.imul, 1) := by decide +kernel
theorem dX9_clear_65 : decode cX9_clear 65 = .ok (.iload 4, 2) := by decide +kernel
theorem dX9_clear_67 : decode cX9_clear 67 = .ok (.iadd, 1) := by decide +kernel
theorem dX9_clear_68 : decode cX9_clear 68 = .ok (.iconst 0, 1) := by decide +kernel
theorem dX9_clear_69 : decode cX9_clear 69 = .ok (.bastore, 1) := by decide +kernel
theorem dX9_clear_70 : decode cX9_clear 70 = .ok (.iinc 4 1, 3) := by decide +kernel
theorem dX9_clear_73 : decode cX9_clear 73 = .ok (.goto (-53), 3) := by decide +kernel
theorem dX9_clear_76 : decode cX9_clear 76 = .ok (.return_, 1) := by decide +kernel
theorem dX9_hand_0 : decode cX9_hand 0 = .ok (.iload_n 1, 1) := by decide +kernel
theorem dX9_hand_1 : decode cX9_hand 1 = .ok (.iload_n 2, 1) := by decide +kernel
theorem dX9_hand_2 : decode cX9_hand 2 = .ok (.invokestatic 258, 3) := by decide +kernel
theorem dX9_hand_5 : decode cX9_hand 5 = .ok (.istore 4, 2) := by decide +kernel
theorem dX9_hand_7 : decode cX9_hand 7 = .ok (.bipush 32, 2) := by decide +kernel
theorem dX9_hand_9 : decode cX9_hand 9 = .ok (.iload 4, 2) := by decide +kernel
theorem dX9_hand_11 : decode cX9_hand 11 = .ok (.imul, 1) := by decide +kernel
theorem dX9_hand_12 : decode cX9_hand 12 = .ok (.iload_n 3, 1) := by decide +kernel
theorem dX9_hand_13 : decode cX9_hand 13 = .ok (.bipush 31, 2) := by decide +kernel
theorem dX9_hand_15 : decode cX9_hand 15 = .ok (.iand, 1) := by decide +kernel
theorem dX9_hand_16 : decode cX9_hand 16 = .ok (.iadd, 1) := by decide +kernel
theorem dX9_hand_17 : decode cX9_hand 17 = .ok (.istore 5, 2) := by decide +kernel
theorem dX9_hand_19 : decode cX9_hand 19 = .ok (.iconst 0, 1) := by decide +kernel
theorem dX9_hand_20 : decode cX9_hand 20 = .ok (.istore 6, 2) := by decide +kernel
theorem dX9_hand_22 : decode cX9_hand 22 = .ok (.iload 6, 2) := by decide +kernel
theorem dX9_hand_24 : decode cX9_hand 24 = .ok (.aload_n 0, 1) := by decide +kernel
theorem dX9_hand_25 : decode cX9_hand 25 = .ok (.getfield 140, 3) := by decide +kernel
theorem dX9_hand_28 : decode cX9_hand 28 = .ok (.iload 5, 2) := by decide +kernel
theorem dX9_hand_30 : decode cX9_hand 30 = .ok (.iaload, 1) := by decide +kernel
theorem dX9_hand_31 : decode cX9_hand 31 = .ok (.if_icmp .ge 154, 3) := by decide +kernel
theorem dX9_hand_34 : decode cX9_hand 34 = .ok (.sipush 240, 3) := by decide +kernel
theorem dX9_hand_37 : decode cX9_hand 37 = .ok (.iload 5, 2) := by decide +kernel
theorem dX9_hand_39 : decode cX9_hand 39 = .ok (.imul, 1) := by decide +kernel
theorem dX9_hand_40 : decode cX9_hand 40 = .ok (.iload 6, 2) := by decide +kernel
theorem dX9_hand_42 : decode cX9_hand 42 = .ok (.iadd, 1) := by decide +kernel
theorem dX9_hand_43 : decode cX9_hand 43 = .ok (.istore 7, 2) := by decide +kernel
theorem dX9_hand_45 : decode cX9_hand 45 = .ok (.aload_n 0, 1) := by decide +kernel
theorem dX9_hand_46 : decode cX9_hand 46 = .ok (.getfield 150, 3) := by decide +kernel
theorem dX9_hand_49 : decode cX9_hand 49 = .ok (.iload 7, 2) := by decide +kernel
theorem dX9_hand_51 : decode cX9_hand 51 = .ok (.baload, 1) := by decide +kernel
theorem dX9_hand_52 : decode cX9_hand 52 = .ok (.ifCond .eq 11, 3) := by decide +kernel
theorem dX9_hand_55 : decode cX9_hand 55 = .ok (.aload_n 0, 1) := by decide +kernel
theorem dX9_hand_56 : decode cX9_hand 56 = .ok (.getfield 156, 3) := by decide +kernel
theorem dX9_hand_59 : decode cX9_hand 59 = .ok (.iload 4, 2) := by decide +kernel
theorem dX9_hand_61 : decode cX9_hand 61 = .ok (.iconst 0, 1) := by decide +kernel
theorem dX9_hand_62 : decode cX9_hand 62 = .ok (.iastore, 1) := by decide +kernel
theorem dX9_hand_63 : decode cX9_hand 63 = .ok (.aload_n 0, 1) := by decide +kernel
theorem dX9_hand_64 : decode cX9_hand 64 = .ok (.getfield 156, 3) := by decide +kernel
theorem dX9_hand_67 : decode cX9_hand 67 = .ok (.iload 4, 2) := by decide +kernel
theorem dX9_hand_69 : decode cX9_hand 69 = .ok (.iaload, 1) := by decide +kernel
theorem dX9_hand_70 : decode cX9_hand 70 = .ok (.iconst (-1), 1) := by decide +kernel
theorem dX9_hand_71 : decode cX9_hand 71 = .ok (.if_icmp .ne 6, 3) := by decide +kernel
theorem dX9_hand_74 : decode cX9_hand 74 = .ok (.goto 105, 3) := by decide +kernel
theorem dX9_hand_77 : decode cX9_hand 77 = .ok (.aload_n 0, 1) := by decide +kernel
theorem dX9_hand_78 : decode cX9_hand 78 = .ok (.getfield 159, 3) := by decide +kernel
theorem dX9_hand_81 : decode cX9_hand 81 = .ok (.sipush 256, 3) := by decide +kernel
theorem dX9_hand_84 : decode cX9_hand 84 = .ok (.iload 4, 2) := by decide +kernel
theorem dX9_hand_86 : decode cX9_hand 86 = .ok (.imul, 1) := by decide +kernel
theorem dX9_hand_87 : decode cX9_hand 87 = .ok (.aload_n 0, 1) := by decide +kernel
theorem dX9_hand_88 : decode cX9_hand 88 = .ok (.getfield 156, 3) := by decide +kernel
theorem dX9_hand_91 : decode cX9_hand 91 = .ok (.iload 4, 2) := by decide +kernel
theorem dX9_hand_93 : decode cX9_hand 93 = .ok (.iaload, 1) := by decide +kernel
theorem dX9_hand_94 : decode cX9_hand 94 = .ok (.iadd, 1) := by decide +kernel
theorem dX9_hand_95 : decode cX9_hand 95 = .ok (.aload_n 0, 1) := by decide +kernel
theorem dX9_hand_96 : decode cX9_hand 96 = .ok (.getfield 144, 3) := by decide +kernel
theorem dX9_hand_99 : decode cX9_hand 99 = .ok (.iload 7, 2) := by decide +kernel
theorem dX9_hand_101 : decode cX9_hand 101 = .ok (.iaload, 1) := by decide +kernel
theorem dX9_hand_102 : decode cX9_hand 102 = .ok (.iastore, 1) := by decide +kernel
theorem dX9_hand_103 : decode cX9_hand 103 = .ok (.aload_n 0, 1) := by decide +kernel
theorem dX9_hand_104 : decode cX9_hand 104 = .ok (.getfield 156, 3) := by decide +kernel
theorem dX9_hand_107 : decode cX9_hand 107 = .ok (.iload 4, 2) := by decide +kernel
theorem dX9_hand_109 : decode cX9_hand 109 = .ok (.dup2, 1) := by decide +kernel
theorem dX9_hand_110 : decode cX9_hand 110 = .ok (.iaload, 1) := by decide +kernel
theorem dX9_hand_111 : decode cX9_hand 111 = .ok (.iconst 1, 1) := by decide +kernel
theorem dX9_hand_112 : decode cX9_hand 112 = .ok (.iadd, 1) := by decide +kernel
theorem dX9_hand_113 : decode cX9_hand 113 = .ok (.iastore, 1) := by decide +kernel
theorem dX9_hand_114 : decode cX9_hand 114 = .ok (.aload_n 0, 1) := by decide +kernel
theorem dX9_hand_115 : decode cX9_hand 115 = .ok (.getfield 153, 3) := by decide +kernel
theorem dX9_hand_118 : decode cX9_hand 118 = .ok (.iload 7, 2) := by decide +kernel
theorem dX9_hand_120 : decode cX9_hand 120 = .ok (.baload, 1) := by decide +kernel
theorem dX9_hand_121 : decode cX9_hand 121 = .ok (.ifCond .ne 6, 3) := by decide +kernel
theorem dX9_hand_124 : decode cX9_hand 124 = .ok (.goto 55, 3) := by decide +kernel
theorem dX9_hand_127 : decode cX9_hand 127 = .ok (.aload_n 0, 1) := by decide +kernel
theorem dX9_hand_128 : decode cX9_hand 128 = .ok (.getfield 156, 3) := by decide +kernel
theorem dX9_hand_131 : decode cX9_hand 131 = .ok (.iload 4, 2) := by decide +kernel
theorem dX9_hand_133 : decode cX9_hand 133 = .ok (.iaload, 1) := by decide +kernel
theorem dX9_hand_134 : decode cX9_hand 134 = .ok (.istore 8, 2) := by decide +kernel
theorem dX9_hand_136 : decode cX9_hand 136 = .ok (.aload_n 0, 1) := by decide +kernel
theorem dX9_hand_137 : decode cX9_hand 137 = .ok (.getfield 156, 3) := by decide +kernel
theorem dX9_hand_140 : decode cX9_hand 140 = .ok (.iload 4, 2) := by decide +kernel
theorem dX9_hand_142 : decode cX9_hand 142 = .ok (.iconst (-1), 1) := by decide +kernel
theorem dX9_hand_143 : decode cX9_hand 143 = .ok (.iastore, 1) := by decide +kernel
theorem dX9_hand_144 : decode cX9_hand 144 = .ok (.aload_n 0, 1) := by decide +kernel
theorem dX9_hand_145 : decode cX9_hand 145 = .ok (.getfield 159, 3) := by decide +kernel
theorem dX9_hand_148 : decode cX9_hand 148 = .ok (.sipush 256, 3) := by decide +kernel
theorem dX9_hand_151 : decode cX9_hand 151 = .ok (.iload 4, 2) := by decide +kernel
theorem dX9_hand_153 : decode cX9_hand 153 = .ok (.imul, 1) := by decide +kernel
theorem dX9_hand_154 : decode cX9_hand 154 = .ok (.iaload, 1) := by decide +kernel
theorem dX9_hand_155 : decode cX9_hand 155 = .ok (.bipush 127, 2) := by decide +kernel
theorem dX9_hand_157 : decode cX9_hand 157 = .ok (.if_icmp .le 14, 3) := by decide +kernel
theorem dX9_hand_160 : decode cX9_hand 160 = .ok (.aload_n 0, 1) := by decide +kernel
theorem dX9_hand_161 : decode cX9_hand 161 = .ok (.iload_n 1, 1) := by decide +kernel
theorem dX9_hand_162 : decode cX9_hand 162 = .ok (.iload_n 2, 1) := by decide +kernel
theorem dX9_hand_163 : decode cX9_hand 163 = .ok (.iload 8, 2) := by decide +kernel
theorem dX9_hand_165 : decode cX9_hand 165 = .ok (.invokevirtual 350, 3) := by decide +kernel
theorem dX9_hand_168 : decode cX9_hand 168 = .ok (.goto 11, 3) := by decide +kernel
theorem dX9_hand_171 : decode cX9_hand 171 = .ok (.aload_n 0, 1) := by decide +kernel
theorem dX9_hand_172 : decode cX9_hand 172 = .ok (.iload 4, 2) := by decide +kernel
theorem dX9_hand_174 : decode cX9_hand 174 = .ok (.iload 8, 2) := by decide +kernel
theorem dX9_hand_176 : decode cX9_hand 176 = .ok (.invokevirtual 353, 3) := by decide +kernel
theorem dX9_hand_179 : decode cX9_hand 179 = .ok (.iinc 6 1, 3) := by decide +kernel
theorem dX9_hand_182 : decode cX9_hand 182 = .ok (.goto (-160), 3) := by decide +kernel
theorem dX9_hand_185 : decode cX9_hand 185 = .ok (.return_, 1) := by decide +kernel
theorem dX9_unitComes_0 : decode cX9_unitComes 0 = .ok (.iload_n 1, 1) := by decide +kernel
theorem dX9_unitComes_1 : decode cX9_unitComes 1 = .ok (.iload_n 2, 1) := by decide +kernel
theorem dX9_unitComes_2 : decode cX9_unitComes 2 = .ok (.invokestatic 258, 3) := by decide +kernel
theorem dX9_unitComes_5 : decode cX9_unitComes 5 = .ok (.istore 4, 2) := by decide +kernel
theorem dX9_unitComes_7 : decode cX9_unitComes 7 = .ok (.aload_n 0, 1) := by decide +kernel
theorem dX9_unitComes_8 : decode cX9_unitComes 8 = .ok (.getfield 162, 3) := by decide +kernel
theorem dX9_unitComes_11 : decode cX9_unitComes 11 = .ok (.iload 4, 2) := by decide +kernel
theorem dX9_unitComes_13 : decode cX9_unitComes 13 = .ok (.iaload, 1) := by decide +kernel
theorem dX9_unitComes_14 : decode cX9_unitComes 14 = .ok (.istore 5, 2) := by decide +kernel
theorem dX9_unitComes_16 : decode cX9_unitComes 16 = .ok (.iload 5, 2) := by decide +kernel
theorem dX9_unitComes_18 : decode cX9_unitComes 18 = .ok (.bipush 32, 2) := by decide +kernel
theorem dX9_unitComes_20 : decode cX9_unitComes 20 = .ok (.isub, 1) := by decide +kernel
theorem dX9_unitComes_21 : decode cX9_unitComes 21 = .ok (.aload_n 0, 1) := by decide +kernel
theorem dX9_unitComes_22 : decode cX9_unitComes 22 = .ok (.getfield 159, 3) := by decide +kernel
theorem dX9_unitComes_25 : decode cX9_unitComes 25 = .ok (.sipush 256, 3) := by decide +kernel
theorem dX9_unitComes_28 : decode cX9_unitComes 28 = .ok (.iload 4, 2) := by decide +kernel
theorem dX9_unitComes_30 : decode cX9_unitComes 30 = .ok (.imul, 1) := by decide +kernel
theorem dX9_unitComes_31 : decode cX9_unitComes 31 = .ok (.iaload, 1) := by decide +kernel
theorem dX9_unitComes_32 : decode cX9_unitComes 32 = .ok (.bipush 63, 2) := by decide +kernel
theorem dX9_unitComes_34 : decode cX9_unitComes 34 = .ok (.iand, 1) := by decide +kernel
theorem dX9_unitComes_35 : decode cX9_unitComes 35 = .ok (.iload 5, 2) := by decide +kernel
theorem dX9_unitComes_37 : decode cX9_unitComes 37 = .ok (.bipush 32, 2) := by decide +kernel
theorem dX9_unitComes_39 : decode cX9_unitComes 39 = .ok (.isub, 1) := by decide +kernel
theorem dX9_unitComes_40 : decode cX9_unitComes 40 = .ok (.isub, 1) := by decide +kernel
theorem dX9_unitComes_41 : decode cX9_unitComes 41 = .ok (.bipush 63, 2) := by decide +kernel
theorem dX9_unitComes_43 : decode cX9_unitComes 43 = .ok (.iand, 1) := by decide +kernel
theorem dX9_unitComes_44 : decode cX9_unitComes 44 = .ok (.iadd, 1) := by decide +kernel
theorem dX9_unitComes_45 : decode cX9_unitComes 45 = .ok (.istore 6, 2) := by decide +kernel
theorem dX9_unitComes_47 : decode cX9_unitComes 47 = .ok (.bipush 32, 2) := by decide +kernel
theorem dX9_unitComes_49 : decode cX9_unitComes 49 = .ok (.iload 4, 2) := by decide +kernel
theorem dX9_unitComes_51 : decode cX9_unitComes 51 = .ok (.imul, 1) := by decide +kernel
theorem dX9_unitComes_52 : decode cX9_unitComes 52 = .ok (.iload 6, 2) := by decide +kernel
theorem dX9_unitComes_54 : decode cX9_unitComes 54 = .ok (.bipush 31, 2) := by decide +kernel
theorem dX9_unitComes_56 : decode cX9_unitComes 56 = .ok (.iand, 1) := by decide +kernel
theorem dX9_unitComes_57 : decode cX9_unitComes 57 = .ok (.iadd, 1) := by decide +kernel
theorem dX9_unitComes_58 : decode cX9_unitComes 58 = .ok (.istore 7, 2) := by decide +kernel
theorem dX9_unitComes_60 : decode cX9_unitComes 60 = .ok (.iload 6, 2) := by decide +kernel
theorem dX9_unitComes_62 : decode cX9_unitComes 62 = .ok (.iload 5, 2) := by decide +kernel
theorem dX9_unitComes_64 : decode cX9_unitComes 64 = .ok (.if_icmp .lt 13, 3) := by decide +kernel
theorem dX9_unitComes_67 : decode cX9_unitComes 67 = .ok (.aload_n 0, 1) := by decide +kernel
theorem dX9_unitComes_68 : decode cX9_unitComes 68 = .ok (.getfield 186, 3) := by decide +kernel
theorem dX9_unitComes_71 : decode cX9_unitComes 71 = .ok (.iload 7, 2) := by decide +kernel
theorem dX9_unitComes_73 : decode cX9_unitComes 73 = .ok (.baload, 1) := by decide +kernel
theorem dX9_unitComes_74 : decode cX9_unitComes 74 = .ok (.ifCond .eq 15, 3) := by decide +kernel
theorem dX9_unitComes_77 : decode cX9_unitComes 77 = .ok (.aload_n 0, 1) := by decide +kernel
theorem dX9_unitComes_78 : decode cX9_unitComes 78 = .ok (.getfield 168, 3) := by decide +kernel
theorem dX9_unitComes_81 : decode cX9_unitComes 81 = .ok (.iload 4, 2) := by decide +kernel
theorem dX9_unitComes_83 : decode cX9_unitComes 83 = .ok (.dup2, 1) := by decide +kernel
theorem dX9_unitComes_84 : decode cX9_unitComes 84 = .ok (.iaload, 1) := by decide +kernel
theorem dX9_unitComes_85 : decode cX9_unitComes 85 = .ok (.iconst 1, 1) := by decide +kernel
theorem dX9_unitComes_86 : decode cX9_unitComes 86 = .ok (.iadd, 1) := by decide +kernel
theorem dX9_unitComes_87 : decode cX9_unitComes 87 = .ok (.iastore, 1) := by decide +kernel
theorem dX9_unitComes_88 : decode cX9_unitComes 88 = .ok (.return_, 1) := by decide +kernel
theorem dX9_unitComes_89 : decode cX9_unitComes 89 = .ok (.aload_n 0, 1) := by decide +kernel
theorem dX9_unitComes_90 : decode cX9_unitComes 90 = .ok (.iconst 1, 1) := by decide +kernel
theorem dX9_unitComes_91 : decode cX9_unitComes 91 = .ok (.iload_n 1, 1) := by decide +kernel
theorem dX9_unitComes_92 : decode cX9_unitComes 92 = .ok (.isub, 1) := by decide +kernel
