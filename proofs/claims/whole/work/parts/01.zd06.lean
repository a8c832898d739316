theorem dX9_unitComes_93 : decode cX9_unitComes 93 = .ok (.iload_n 2, 1) := by decide +kernel
theorem dX9_unitComes_94 : decode cX9_unitComes 94 = .ok (.iload 6, 2) := by decide +kernel
theorem dX9_unitComes_96 : decode cX9_unitComes 96 = .ok (.iload_n 3, 1) := by decide +kernel
theorem dX9_unitComes_97 : decode cX9_unitComes 97 = .ok (.iconst 1, 1) := by decide +kernel
theorem dX9_unitComes_98 : decode cX9_unitComes 98 = .ok (.isub, 1) := by decide +kernel
theorem dX9_unitComes_99 : decode cX9_unitComes 99 = .ok (.invokevirtual 261, 3) := by decide +kernel
theorem dX9_unitComes_102 : decode cX9_unitComes 102 = .ok (.aload_n 0, 1) := by decide +kernel
theorem dX9_unitComes_103 : decode cX9_unitComes 103 = .ok (.getfield 186, 3) := by decide +kernel
theorem dX9_unitComes_106 : decode cX9_unitComes 106 = .ok (.iload 7, 2) := by decide +kernel
theorem dX9_unitComes_108 : decode cX9_unitComes 108 = .ok (.iconst 1, 1) := by decide +kernel
theorem dX9_unitComes_109 : decode cX9_unitComes 109 = .ok (.bastore, 1) := by decide +kernel
theorem dX9_unitComes_110 : decode cX9_unitComes 110 = .ok (.aload_n 0, 1) := by decide +kernel
theorem dX9_unitComes_111 : decode cX9_unitComes 111 = .ok (.getfield 177, 3) := by decide +kernel
theorem dX9_unitComes_114 : decode cX9_unitComes 114 = .ok (.iload 7, 2) := by decide +kernel
theorem dX9_unitComes_116 : decode cX9_unitComes 116 = .ok (.iload_n 3, 1) := by decide +kernel
theorem dX9_unitComes_117 : decode cX9_unitComes 117 = .ok (.iconst 1, 1) := by decide +kernel
theorem dX9_unitComes_118 : decode cX9_unitComes 118 = .ok (.isub, 1) := by decide +kernel
theorem dX9_unitComes_119 : decode cX9_unitComes 119 = .ok (.iastore, 1) := by decide +kernel
theorem dX9_unitComes_120 : decode cX9_unitComes 120 = .ok (.iconst 0, 1) := by decide +kernel
theorem dX9_unitComes_121 : decode cX9_unitComes 121 = .ok (.istore 8, 2) := by decide +kernel
theorem dX9_unitComes_123 : decode cX9_unitComes 123 = .ok (.iload 8, 2) := by decide +kernel
theorem dX9_unitComes_125 : decode cX9_unitComes 125 = .ok (.iconst 1, 1) := by decide +kernel
theorem dX9_unitComes_126 : decode cX9_unitComes 126 = .ok (.iadd, 1) := by decide +kernel
theorem dX9_unitComes_127 : decode cX9_unitComes 127 = .ok (.iload_n 3, 1) := by decide +kernel
theorem dX9_unitComes_128 : decode cX9_unitComes 128 = .ok (.if_icmp .ge 46, 3) := by decide +kernel
theorem dX9_unitComes_131 : decode cX9_unitComes 131 = .ok (.aload_n 0, 1) := by decide +kernel
theorem dX9_unitComes_132 : decode cX9_unitComes 132 = .ok (.getfield 180, 3) := by decide +kernel
theorem dX9_unitComes_135 : decode cX9_unitComes 135 = .ok (.bipush 120, 2) := by decide +kernel
theorem dX9_unitComes_137 : decode cX9_unitComes 137 = .ok (.iload 7, 2) := by decide +kernel
theorem dX9_unitComes_139 : decode cX9_unitComes 139 = .ok (.imul, 1) := by decide +kernel
theorem dX9_unitComes_140 : decode cX9_unitComes 140 = .ok (.iload 8, 2) := by decide +kernel
theorem dX9_unitComes_142 : decode cX9_unitComes 142 = .ok (.iadd, 1) := by decide +kernel
theorem dX9_unitComes_143 : decode cX9_unitComes 143 = .ok (.aload_n 0, 1) := by decide +kernel
theorem dX9_unitComes_144 : decode cX9_unitComes 144 = .ok (.getfield 159, 3) := by decide +kernel
theorem dX9_unitComes_147 : decode cX9_unitComes 147 = .ok (.sipush 256, 3) := by decide +kernel
theorem dX9_unitComes_150 : decode cX9_unitComes 150 = .ok (.iload 4, 2) := by decide +kernel
theorem dX9_unitComes_152 : decode cX9_unitComes 152 = .ok (.imul, 1) := by decide +kernel
theorem dX9_unitComes_153 : decode cX9_unitComes 153 = .ok (.iconst 1, 1) := by decide +kernel
theorem dX9_unitComes_154 : decode cX9_unitComes 154 = .ok (.iadd, 1) := by decide +kernel
theorem dX9_unitComes_155 : decode cX9_unitComes 155 = .ok (.iload 8, 2) := by decide +kernel
theorem dX9_unitComes_157 : decode cX9_unitComes 157 = .ok (.iadd, 1) := by decide +kernel
theorem dX9_unitComes_158 : decode cX9_unitComes 158 = .ok (.iaload, 1) := by decide +kernel
theorem dX9_unitComes_159 : decode cX9_unitComes 159 = .ok (.aload_n 0, 1) := by decide +kernel
theorem dX9_unitComes_160 : decode cX9_unitComes 160 = .ok (.getfield 222, 3) := by decide +kernel
theorem dX9_unitComes_163 : decode cX9_unitComes 163 = .ok (.iload 8, 2) := by decide +kernel
theorem dX9_unitComes_165 : decode cX9_unitComes 165 = .ok (.iaload, 1) := by decide +kernel
theorem dX9_unitComes_166 : decode cX9_unitComes 166 = .ok (.ixor, 1) := by decide +kernel
theorem dX9_unitComes_167 : decode cX9_unitComes 167 = .ok (.iastore, 1) := by decide +kernel
theorem dX9_unitComes_168 : decode cX9_unitComes 168 = .ok (.iinc 8 1, 3) := by decide +kernel
theorem dX9_unitComes_171 : decode cX9_unitComes 171 = .ok (.goto (-48), 3) := by decide +kernel
theorem dX9_unitComes_174 : decode cX9_unitComes 174 = .ok (.aload_n 0, 1) := by decide +kernel
theorem dX9_unitComes_175 : decode cX9_unitComes 175 = .ok (.getfield 186, 3) := by decide +kernel
theorem dX9_unitComes_178 : decode cX9_unitComes 178 = .ok (.bipush 32, 2) := by decide +kernel
theorem dX9_unitComes_180 : decode cX9_unitComes 180 = .ok (.iload 4, 2) := by decide +kernel
theorem dX9_unitComes_182 : decode cX9_unitComes 182 = .ok (.imul, 1) := by decide +kernel
theorem dX9_unitComes_183 : decode cX9_unitComes 183 = .ok (.aload_n 0, 1) := by decide +kernel
theorem dX9_unitComes_184 : decode cX9_unitComes 184 = .ok (.getfield 162, 3) := by decide +kernel
theorem dX9_unitComes_187 : decode cX9_unitComes 187 = .ok (.iload 4, 2) := by decide +kernel
theorem dX9_unitComes_189 : decode cX9_unitComes 189 = .ok (.iaload, 1) := by decide +kernel
theorem dX9_unitComes_190 : decode cX9_unitComes 190 = .ok (.bipush 31, 2) := by decide +kernel
theorem dX9_unitComes_192 : decode cX9_unitComes 192 = .ok (.iand, 1) := by decide +kernel
theorem dX9_unitComes_193 : decode cX9_unitComes 193 = .ok (.iadd, 1) := by decide +kernel
theorem dX9_unitComes_194 : decode cX9_unitComes 194 = .ok (.baload, 1) := by decide +kernel
theorem dX9_unitComes_195 : decode cX9_unitComes 195 = .ok (.ifCond .eq 28, 3) := by decide +kernel
theorem dX9_unitComes_198 : decode cX9_unitComes 198 = .ok (.aload_n 0, 1) := by decide +kernel
theorem dX9_unitComes_199 : decode cX9_unitComes 199 = .ok (.iload 4, 2) := by decide +kernel
theorem dX9_unitComes_201 : decode cX9_unitComes 201 = .ok (.bipush 32, 2) := by decide +kernel
theorem dX9_unitComes_203 : decode cX9_unitComes 203 = .ok (.iload 4, 2) := by decide +kernel
theorem dX9_unitComes_205 : decode cX9_unitComes 205 = .ok (.imul, 1) := by decide +kernel
theorem dX9_unitComes_206 : decode cX9_unitComes 206 = .ok (.aload_n 0, 1) := by decide +kernel
theorem dX9_unitComes_207 : decode cX9_unitComes 207 = .ok (.getfield 162, 3) := by decide +kernel
theorem dX9_unitComes_210 : decode cX9_unitComes 210 = .ok (.iload 4, 2) := by decide +kernel
theorem dX9_unitComes_212 : decode cX9_unitComes 212 = .ok (.iaload, 1) := by decide +kernel
theorem dX9_unitComes_213 : decode cX9_unitComes 213 = .ok (.bipush 31, 2) := by decide +kernel
theorem dX9_unitComes_215 : decode cX9_unitComes 215 = .ok (.iand, 1) := by decide +kernel
theorem dX9_unitComes_216 : decode cX9_unitComes 216 = .ok (.iadd, 1) := by decide +kernel
theorem dX9_unitComes_217 : decode cX9_unitComes 217 = .ok (.invokevirtual 356, 3) := by decide +kernel
theorem dX9_unitComes_220 : decode cX9_unitComes 220 = .ok (.goto (-46), 3) := by decide +kernel
theorem dX9_unitComes_223 : decode cX9_unitComes 223 = .ok (.return_, 1) := by decide +kernel
theorem dX9_deliver_0 : decode cX9_deliver 0 = .ok (.aload_n 0, 1) := by decide +kernel
theorem dX9_deliver_1 : decode cX9_deliver 1 = .ok (.getfield 186, 3) := by decide +kernel
theorem dX9_deliver_4 : decode cX9_deliver 4 = .ok (.iload_n 2, 1) := by decide +kernel
theorem dX9_deliver_5 : decode cX9_deliver 5 = .ok (.iconst 0, 1) := by decide +kernel
theorem dX9_deliver_6 : decode cX9_deliver 6 = .ok (.bastore, 1) := by decide +kernel
theorem dX9_deliver_7 : decode cX9_deliver 7 = .ok (.aload_n 0, 1) := by decide +kernel
theorem dX9_deliver_8 : decode cX9_deliver 8 = .ok (.getfield 177, 3) := by decide +kernel
theorem dX9_deliver_11 : decode cX9_deliver 11 = .ok (.iload_n 2, 1) := by decide +kernel
theorem dX9_deliver_12 : decode cX9_deliver 12 = .ok (.iaload, 1) := by decide +kernel
theorem dX9_deliver_13 : decode cX9_deliver 13 = .ok (.istore_n 3, 1) := by decide +kernel
theorem dX9_deliver_14 : decode cX9_deliver 14 = .ok (.aload_n 0, 1) := by decide +kernel
theorem dX9_deliver_15 : decode cX9_deliver 15 = .ok (.getfield 174, 3) := by decide +kernel
theorem dX9_deliver_18 : decode cX9_deliver 18 = .ok (.iload_n 1, 1) := by decide +kernel
theorem dX9_deliver_19 : decode cX9_deliver 19 = .ok (.iload_n 3, 1) := by decide +kernel
theorem dX9_deliver_20 : decode cX9_deliver 20 = .ok (.iastore, 1) := by decide +kernel
theorem dX9_deliver_21 : decode cX9_deliver 21 = .ok (.aload_n 0, 1) := by decide +kernel
theorem dX9_deliver_22 : decode cX9_deliver 22 = .ok (.getfield 165, 3) := by decide +kernel
theorem dX9_deliver_25 : decode cX9_deliver 25 = .ok (.iload_n 1, 1) := by decide +kernel
theorem dX9_deliver_26 : decode cX9_deliver 26 = .ok (.dup2, 1) := by decide +kernel
theorem dX9_deliver_27 : decode cX9_deliver 27 = .ok (.iaload, 1) := by decide +kernel
theorem dX9_deliver_28 : decode cX9_deliver 28 = .ok (.iload_n 3, 1) := by decide +kernel
theorem dX9_deliver_29 : decode cX9_deliver 29 = .ok (.iadd, 1) := by decide +kernel
theorem dX9_deliver_30 : decode cX9_deliver 30 = .ok (.iastore, 1) := by decide +kernel
theorem dX9_deliver_31 : decode cX9_deliver 31 = .ok (.aload_n 0, 1) := by decide +kernel
theorem dX9_deliver_32 : decode cX9_deliver 32 = .ok (.getfield 171, 3) := by decide +kernel
theorem dX9_deliver_35 : decode cX9_deliver 35 = .ok (.iload_n 1, 1) := by decide +kernel
theorem dX9_deliver_36 : decode cX9_deliver 36 = .ok (.bipush 31, 2) := by decide +kernel
theorem dX9_deliver_38 : decode cX9_deliver 38 = .ok (.aload_n 0, 1) := by decide +kernel
theorem dX9_deliver_39 : decode cX9_deliver 39 = .ok (.getfield 171, 3) := by decide +kernel
theorem dX9_deliver_42 : decode cX9_deliver 42 = .ok (.iload_n 1, 1) := by decide +kernel
theorem dX9_deliver_43 : decode cX9_deliver 43 = .ok (.iaload, 1) := by decide +kernel
theorem dX9_deliver_44 : decode cX9_deliver 44 = .ok (.imul, 1) := by decide +kernel
theorem dX9_deliver_45 : decode cX9_deliver 45 = .ok (.iload_n 3, 1) := by decide +kernel
theorem dX9_deliver_46 : decode cX9_deliver 46 = .ok (.iadd, 1) := by decide +kernel
theorem dX9_deliver_47 : decode cX9_deliver 47 = .ok (.iastore, 1) := by decide +kernel
theorem dX9_deliver_48 : decode cX9_deliver 48 = .ok (.iconst 0, 1) := by decide +kernel
theorem dX9_deliver_49 : decode cX9_deliver 49 = .ok (.istore 4, 2) := by decide +kernel
theorem dX9_deliver_51 : decode cX9_deliver 51 = .ok (.iload 4, 2) := by decide +kernel
theorem dX9_deliver_53 : decode cX9_deliver 53 = .ok (.iload_n 3, 1) := by decide +kernel
theorem dX9_deliver_54 : decode cX9_deliver 54 = .ok (.if_icmp .ge 61, 3) := by decide +kernel
theorem dX9_deliver_57 : decode cX9_deliver 57 = .ok (.aload_n 0, 1) := by decide +kernel
theorem dX9_deliver_58 : decode cX9_deliver 58 = .ok (.getfield 183, 3) := by decide +kernel
theorem dX9_deliver_61 : decode cX9_deliver 61 = .ok (.bipush 120, 2) := by decide +kernel
theorem dX9_deliver_63 : decode cX9_deliver 63 = .ok (.iload_n 1, 1) := by decide +kernel
theorem dX9_deliver_64 : decode cX9_deliver 64 = .ok (.imul, 1) := by decide +kernel
theorem dX9_deliver_65 : decode cX9_deliver 65 = .ok (.iload 4, 2) := by decide +kernel
theorem dX9_deliver_67 : decode cX9_deliver 67 = .ok (.iadd, 1) := by decide +kernel
theorem dX9_deliver_68 : decode cX9_deliver 68 = .ok (.aload_n 0, 1) := by decide +kernel
theorem dX9_deliver_69 : decode cX9_deliver 69 = .ok (.getfield 180, 3) := by decide +kernel
theorem dX9_deliver_72 : decode cX9_deliver 72 = .ok (.bipush 120, 2) := by decide +kernel
theorem dX9_deliver_74 : decode cX9_deliver 74 = .ok (.iload_n 2, 1) := by decide +kernel
theorem dX9_deliver_75 : decode cX9_deliver 75 = .ok (.imul, 1) := by decide +kernel
theorem dX9_deliver_76 : decode cX9_deliver 76 = .ok (.iload 4, 2) := by decide +kernel
theorem dX9_deliver_78 : decode cX9_deliver 78 = .ok (.iadd, 1) := by decide +kernel
theorem dX9_deliver_79 : decode cX9_deliver 79 = .ok (.iaload, 1) := by decide +kernel
theorem dX9_deliver_80 : decode cX9_deliver 80 = .ok (.iastore, 1) := by decide +kernel
theorem dX9_deliver_81 : decode cX9_deliver 81 = .ok (.aload_n 0, 1) := by decide +kernel
theorem dX9_deliver_82 : decode cX9_deliver 82 = .ok (.getfield 171, 3) := by decide +kernel
theorem dX9_deliver_85 : decode cX9_deliver 85 = .ok (.iload_n 1, 1) := by decide +kernel
theorem dX9_deliver_86 : decode cX9_deliver 86 = .ok (.bipush 31, 2) := by decide +kernel
theorem dX9_deliver_88 : decode cX9_deliver 88 = .ok (.aload_n 0, 1) := by decide +kernel
theorem dX9_deliver_89 : decode cX9_deliver 89 = .ok (.getfield 171, 3) := by decide +kernel
theorem dX9_deliver_92 : decode cX9_deliver 92 = .ok (.iload_n 1, 1) := by decide +kernel
theorem dX9_deliver_93 : decode cX9_deliver 93 = .ok (.iaload, 1) := by decide +kernel
theorem dX9_deliver_94 : decode cX9_deliver 94 = .ok (.imul, 1) := by decide +kernel
theorem dX9_deliver_95 : decode cX9_deliver 95 = .ok (.aload_n 0, 1) := by decide +kernel
theorem dX9_deliver_96 : decode cX9_deliver 96 = .ok (.getfield 180, 3) := by decide +kernel
theorem dX9_deliver_99 : decode cX9_deliver 99 = .ok (.bipush 120, 2) := by decide +kernel
theorem dX9_deliver_101 : decode cX9_deliver 101 = .ok (.iload_n 2, 1) := by decide +kernel
theorem dX9_deliver_102 : decode cX9_deliver 102 = .ok (.imul, 1) := by decide +kernel
theorem dX9_deliver_103 : decode cX9_deliver 103 = .ok (.iload 4, 2) := by decide +kernel
theorem dX9_deliver_105 : decode cX9_deliver 105 = .ok (.iadd, 1) := by decide +kernel
theorem dX9_deliver_106 : decode cX9_deliver 106 = .ok (.iaload, 1) := by decide +kernel
theorem dX9_deliver_107 : decode cX9_deliver 107 = .ok (.iadd, 1) := by decide +kernel
theorem dX9_deliver_108 : decode cX9_deliver 108 = .ok (.iastore, 1) := by decide +kernel
theorem dX9_deliver_109 : decode cX9_deliver 109 = .ok (.iinc 4 1, 3) := by decide +kernel
theorem dX9_deliver_112 : decode cX9_deliver 112 = .ok (.goto (-61), 3) := by decide +kernel
theorem dX9_deliver_115 : decode cX9_deliver 115 = .ok (.aload_n 0, 1) := by decide +kernel
theorem dX9_deliver_116 : decode cX9_deliver 116 = .ok (.getfield 162, 3) := by decide +kernel
theorem dX9_deliver_119 : decode cX9_deliver 119 = .ok (.iload_n 1, 1) := by decide +kernel
theorem dX9_deliver_120 : decode cX9_deliver 120 = .ok (.dup2, 1) := by decide +kernel
theorem dX9_deliver_121 : decode cX9_deliver 121 = .ok (.iaload, 1) := by decide +kernel
theorem dX9_deliver_122 : decode cX9_deliver 122 = .ok (.iconst 1, 1) := by decide +kernel
theorem dX9_deliver_123 : decode cX9_deliver 123 = .ok (.iadd, 1) := by decide +kernel
theorem dX9_deliver_124 : decode cX9_deliver 124 = .ok (.iastore, 1) := by decide +kernel
theorem dX9_deliver_125 : decode cX9_deliver 125 = .ok (.return_, 1) := by decide +kernel
theorem dX9_report_0 : decode cX9_report 0 = .ok (.aload_n 0, 1) := by decide +kernel
theorem dX9_report_1 : decode cX9_report 1 = .ok (.getfield 159, 3) := by decide +kernel
theorem dX9_report_4 : decode cX9_report 4 = .ok (.sipush 256, 3) := by decide +kernel
theorem dX9_report_7 : decode cX9_report 7 = .ok (.iload_n 1, 1) := by decide +kernel
theorem dX9_report_8 : decode cX9_report 8 = .ok (.imul, 1) := by decide +kernel
theorem dX9_report_9 : decode cX9_report 9 = .ok (.iaload, 1) := by decide +kernel
theorem dX9_report_10 : decode cX9_report 10 = .ok (.bipush 8, 2) := by decide +kernel
theorem dX9_report_12 : decode cX9_report 12 = .ok (.ishl, 1) := by decide +kernel
theorem dX9_report_13 : decode cX9_report 13 = .ok (.aload_n 0, 1) := by decide +kernel
theorem dX9_report_14 : decode cX9_report 14 = .ok (.getfield 159, 3) := by decide +kernel
theorem dX9_report_17 : decode cX9_report 17 = .ok (.sipush 256, 3) := by decide +kernel
theorem dX9_report_20 : decode cX9_report 20 = .ok (.iload_n 1, 1) := by decide +kernel
theorem dX9_report_21 : decode cX9_report 21 = .ok (.imul, 1) := by decide +kernel
theorem dX9_report_22 : decode cX9_report 22 = .ok (.iconst 1, 1) := by decide +kernel
theorem dX9_report_23 : decode cX9_report 23 = .ok (.iadd, 1) := by decide +kernel
theorem dX9_report_24 : decode cX9_report 24 = .ok (.iaload, 1) := by decide +kernel
theorem dX9_report_25 : decode cX9_report 25 = .ok (.ior, 1) := by decide +kernel
theorem dX9_report_26 : decode cX9_report 26 = .ok (.istore_n 3, 1) := by decide +kernel
theorem dX9_report_27 : decode cX9_report 27 = .ok (.aload_n 0, 1) := by decide +kernel
theorem dX9_report_28 : decode cX9_report 28 = .ok (.iload_n 1, 1) := by decide +kernel
theorem dX9_report_29 : decode cX9_report 29 = .ok (.invokevirtual 273, 3) := by decide +kernel
theorem dX9_report_32 : decode cX9_report 32 = .ok (.istore 4, 2) := by decide +kernel
theorem dX9_report_34 : decode cX9_report 34 = .ok (.iload 4, 2) := by decide +kernel
theorem dX9_report_36 : decode cX9_report 36 = .ok (.aload_n 0, 1) := by decide +kernel
theorem dX9_report_37 : decode cX9_report 37 = .ok (.getfield 13, 3) := by decide +kernel
theorem dX9_report_40 : decode cX9_report 40 = .ok (.iload_n 1, 1) := by decide +kernel
theorem dX9_report_41 : decode cX9_report 41 = .ok (.iaload, 1) := by decide +kernel
theorem dX9_report_42 : decode cX9_report 42 = .ok (.if_icmp .ge 112, 3) := by decide +kernel
theorem dX9_report_45 : decode cX9_report 45 = .ok (.aload_n 0, 1) := by decide +kernel
theorem dX9_report_46 : decode cX9_report 46 = .ok (.getfield 53, 3) := by decide +kernel
theorem dX9_report_49 : decode cX9_report 49 = .ok (.bipush 32, 2) := by decide +kernel
theorem dX9_report_51 : decode cX9_report 51 = .ok (.iload_n 1, 1) := by decide +kernel
theorem dX9_report_52 : decode cX9_report 52 = .ok (.imul, 1) := by decide +kernel
theorem dX9_report_53 : decode cX9_report 53 = .ok (.iload 4, 2) := by decide +kernel
theorem dX9_report_55 : decode cX9_report 55 = .ok (.bipush 31, 2) := by decide +kernel
theorem dX9_report_57 : decode cX9_report 57 = .ok (.iand, 1) := by decide +kernel
theorem dX9_report_58 : decode cX9_report 58 = .ok (.iadd, 1) := by decide +kernel
theorem dX9_report_59 : decode cX9_report 59 = .ok (.baload, 1) := by decide +kernel
theorem dX9_report_60 : decode cX9_report 60 = .ok (.ifCond .ne 6, 3) := by decide +kernel
theorem dX9_report_63 : decode cX9_report 63 = .ok (.goto 85, 3) := by decide +kernel
theorem dX9_report_66 : decode cX9_report 66 = .ok (.iload 4, 2) := by decide +kernel
theorem dX9_report_68 : decode cX9_report 68 = .ok (.iload_n 3, 1) := by decide +kernel
theorem dX9_report_69 : decode cX9_report 69 = .ok (.isub, 1) := by decide +kernel
theorem dX9_report_70 : decode cX9_report 70 = .ok (.iconst 1, 1) := by decide +kernel
theorem dX9_report_71 : decode cX9_report 71 = .ok (.isub, 1) := by decide +kernel
theorem dX9_report_72 : decode cX9_report 72 = .ok (.istore 5, 2) := by decide +kernel
theorem dX9_report_74 : decode cX9_report 74 = .ok (.iload 4, 2) := by decide +kernel
theorem dX9_report_76 : decode cX9_report 76 = .ok (.iload_n 3, 1) := by decide +kernel
theorem dX9_report_77 : decode cX9_report 77 = .ok (.if_icmp .lt 52, 3) := by decide +kernel
theorem dX9_report_80 : decode cX9_report 80 = .ok (.iload 5, 2) := by decide +kernel
theorem dX9_report_82 : decode cX9_report 82 = .ok (.ifCond .lt 51, 3) := by decide +kernel
theorem dX9_report_85 : decode cX9_report 85 = .ok (.iload 5, 2) := by decide +kernel
theorem dX9_report_87 : decode cX9_report 87 = .ok (.bipush 8, 2) := by decide +kernel
theorem dX9_report_89 : decode cX9_report 89 = .ok (.iload_n 2, 1) := by decide +kernel
theorem dX9_report_90 : decode cX9_report 90 = .ok (.iconst 2, 1) := by decide +kernel
theorem dX9_report_91 : decode cX9_report 91 = .ok (.isub, 1) := by decide +kernel
theorem dX9_report_92 : decode cX9_report 92 = .ok (.imul, 1) := by decide +kernel
theorem dX9_report_93 : decode cX9_report 93 = .ok (.if_icmp .ge 40, 3) := by decide +kernel
theorem dX9_report_96 : decode cX9_report 96 = .ok (.aload_n 0, 1) := by decide +kernel
theorem dX9_report_97 : decode cX9_report 97 = .ok (.getfield 159, 3) := by decide +kernel
theorem dX9_report_100 : decode cX9_report 100 = .ok (.sipush 256, 3) := by decide +kernel
theorem dX9_report_103 : decode cX9_report 103 = .ok (.iload_n 1, 1) := by decide +kernel
theorem dX9_report_104 : decode cX9_report 104 = .ok (.imul, 1) := by decide +kernel
theorem dX9_report_105 : decode cX9_report 105 = .ok (.iconst 2, 1) := by decide +kernel
theorem dX9_report_106 : decode cX9_report 106 = .ok (.iadd, 1) := by decide +kernel
theorem dX9_report_107 : decode cX9_report 107 = .ok (.iload 5, 2) := by decide +kernel
theorem dX9_report_109 : decode cX9_report 109 = .ok (.bipush 8, 2) := by decide +kernel
theorem dX9_report_111 : decode cX9_report 111 = .ok (.idiv, 1) := by decide +kernel
theorem dX9_report_112 : decode cX9_report 112 = .ok (.iadd, 1) := by decide +kernel
theorem dX9_report_113 : decode cX9_report 113 = .ok (.iaload, 1) := by decide +kernel
theorem dX9_report_114 : decode cX9_report 114 = .ok (.bipush 7, 2) := by decide +kernel
theorem dX9_report_116 : decode cX9_report 116 = .ok (.iload 5, 2) := by decide +kernel
theorem dX9_report_118 : decode cX9_report 118 = .ok (.bipush 8, 2) := by decide +kernel
theorem dX9_report_120 : decode cX9_report 120 = .ok (.irem, 1) := by decide +kernel
theorem dX9_report_121 : decode cX9_report 121 = .ok (.isub, 1) := by decide +kernel
theorem dX9_report_122 : decode cX9_report 122 = .ok (.ishr, 1) := by decide +kernel
theorem dX9_report_123 : decode cX9_report 123 = .ok (.iconst 1, 1) := by decide +kernel
theorem dX9_report_124 : decode cX9_report 124 = .ok (.iand, 1) := by decide +kernel
theorem dX9_report_125 : decode cX9_report 125 = .ok (.iconst 1, 1) := by decide +kernel
theorem dX9_report_126 : decode cX9_report 126 = .ok (.if_icmp .ne 7, 3) := by decide +kernel
theorem dX9_report_129 : decode cX9_report 129 = .ok (.iconst 1, 1) := by decide +kernel
theorem dX9_report_130 : decode cX9_report 130 = .ok (.goto 4, 3) := by decide +kernel
theorem dX9_report_133 : decode cX9_report 133 = .ok (.iconst 0, 1) := by decide +kernel
theorem dX9_report_134 : decode cX9_report 134 = .ok (.istore 6, 2) := by decide +kernel
theorem dX9_report_136 : decode cX9_report 136 = .ok (.iload 6, 2) := by decide +kernel
theorem dX9_report_138 : decode cX9_report 138 = .ok (.ifCond .eq 10, 3) := by decide +kernel
theorem dX9_report_141 : decode cX9_report 141 = .ok (.aload_n 0, 1) := by decide +kernel
theorem dX9_report_142 : decode cX9_report 142 = .ok (.iload_n 1, 1) := by decide +kernel
theorem dX9_report_143 : decode cX9_report 143 = .ok (.iload 4, 2) := by decide +kernel
theorem dX9_report_145 : decode cX9_report 145 = .ok (.invokevirtual 330, 3) := by decide +kernel
theorem dX9_report_148 : decode cX9_report 148 = .ok (.iinc 4 1, 3) := by decide +kernel
theorem dX9_report_151 : decode cX9_report 151 = .ok (.goto (-117), 3) := by decide +kernel
theorem dX9_report_154 : decode cX9_report 154 = .ok (.return_, 1) := by decide +kernel
theorem dX9_awaitReport_0 : decode cX9_awaitReport 0 = .ok (.aload_n 0, 1) := by decide +kernel
theorem dX9_awaitReport_1 : decode cX9_awaitReport 1 = .ok (.getfield 162, 3) := by decide +kernel
theorem dX9_awaitReport_4 : decode cX9_awaitReport 4 = .ok (.iload_n 1, 1) := by decide +kernel
theorem dX9_awaitReport_5 : decode cX9_awaitReport 5 = .ok (.iaload, 1) := by decide +kernel
theorem dX9_awaitReport_6 : decode cX9_awaitReport 6 = .ok (.istore_n 2, 1) := by decide +kernel
theorem dX9_awaitReport_7 : decode cX9_awaitReport 7 = .ok (.iconst 0, 1) := by decide +kernel
theorem dX9_awaitReport_8 : decode cX9_awaitReport 8 = .ok (.istore_n 3, 1) := by decide +kernel
theorem dX9_awaitReport_9 : decode cX9_awaitReport 9 = .ok (.iconst 0, 1) := by decide +kernel
theorem dX9_awaitReport_10 : decode cX9_awaitReport 10 = .ok (.istore 4, 2) := by decide +kernel
theorem dX9_awaitReport_12 : decode cX9_awaitReport 12 = .ok (.iload 4, 2) := by decide +kernel
theorem dX9_awaitReport_14 : decode cX9_awaitReport 14 = .ok (.bipush 31, 2) := by decide +kernel
theorem dX9_awaitReport_16 : decode cX9_awaitReport 16 = .ok (.if_icmp .ge 36, 3) := by decide +kernel
theorem dX9_awaitReport_19 : decode cX9_awaitReport 19 = .ok (.aload_n 0, 1) := by decide +kernel
theorem dX9_awaitReport_20 : decode cX9_awaitReport 20 = .ok (.getfield 186, 3) := by decide +kernel
theorem dX9_awaitReport_23 : decode cX9_awaitReport 23 = .ok (.bipush 32, 2) := by decide +kernel
theorem dX9_awaitReport_25 : decode cX9_awaitReport 25 = .ok (.iload_n 1, 1) := by decide +kernel
theorem dX9_awaitReport_26 : decode cX9_awaitReport 26 = .ok (.imul, 1) := by decide +kernel
theorem dX9_awaitReport_27 : decode cX9_awaitReport 27 = .ok (.iload_n 2, 1) := by decide +kernel
theorem dX9_awaitReport_28 : decode cX9_awaitReport 28 = .ok (.iconst 1, 1) := by decide +kernel
theorem dX9_awaitReport_29 : decode cX9_awaitReport 29 = .ok (.iadd, 1) := by decide +kernel
theorem dX9_awaitReport_30 : decode cX9_awaitReport 30 = .ok (.iload 4, 2) := by decide +kernel
theorem dX9_awaitReport_32 : decode cX9_awaitReport 32 = .ok (.iadd, 1) := by decide +kernel
theorem dX9_awaitReport_33 : decode cX9_awaitReport 33 = .ok (.bipush 31, 2) := by decide +kernel
theorem dX9_awaitReport_35 : decode cX9_awaitReport 35 = .ok (.iand, 1) := by decide +kernel
theorem dX9_awaitReport_36 : decode cX9_awaitReport 36 = .ok (.iadd, 1) := by decide +kernel
theorem dX9_awaitReport_37 : decode cX9_awaitReport 37 = .ok (.baload, 1) := by decide +kernel
theorem dX9_awaitReport_38 : decode cX9_awaitReport 38 = .ok (.ifCond .eq 8, 3) := by decide +kernel
theorem dX9_awaitReport_41 : decode cX9_awaitReport 41 = .ok (.iload 4, 2) := by decide +kernel
theorem dX9_awaitReport_43 : decode cX9_awaitReport 43 = .ok (.iconst 1, 1) := by decide +kernel
theorem dX9_awaitReport_44 : decode cX9_awaitReport 44 = .ok (.iadd, 1) := by decide +kernel
theorem dX9_awaitReport_45 : decode cX9_awaitReport 45 = .ok (.istore_n 3, 1) := by decide +kernel
theorem dX9_awaitReport_46 : decode cX9_awaitReport 46 = .ok (.iinc 4 1, 3) := by decide +kernel
theorem dX9_awaitReport_49 : decode cX9_awaitReport 49 = .ok (.goto (-37), 3) := by decide +kernel
theorem dX9_awaitReport_52 : decode cX9_awaitReport 52 = .ok (.iload_n 3, 1) := by decide +kernel
theorem dX9_awaitReport_53 : decode cX9_awaitReport 53 = .ok (.bipush 7, 2) := by decide +kernel
theorem dX9_awaitReport_55 : decode cX9_awaitReport 55 = .ok (.iadd, 1) := by decide +kernel
theorem dX9_awaitReport_56 : decode cX9_awaitReport 56 = .ok (.bipush 8, 2) := by decide +kernel
theorem dX9_awaitReport_58 : decode cX9_awaitReport 58 = .ok (.idiv, 1) := by decide +kernel
theorem dX9_awaitReport_59 : decode cX9_awaitReport 59 = .ok (.istore 4, 2) := by decide +kernel
theorem dX9_awaitReport_61 : decode cX9_awaitReport 61 = .ok (.aload_n 0, 1) := by decide +kernel
theorem dX9_awaitReport_62 : decode cX9_awaitReport 62 = .ok (.iload_n 1, 1) := by decide +kernel
theorem dX9_awaitReport_63 : decode cX9_awaitReport 63 = .ok (.iload_n 2, 1) := by decide +kernel
theorem dX9_awaitReport_64 : decode cX9_awaitReport 64 = .ok (.bipush 8, 2) := by decide +kernel
theorem dX9_awaitReport_66 : decode cX9_awaitReport 66 = .ok (.ishr, 1) := by decide +kernel
theorem dX9_awaitReport_67 : decode cX9_awaitReport 67 = .ok (.bipush 63, 2) := by decide +kernel
theorem dX9_awaitReport_69 : decode cX9_awaitReport 69 = .ok (.iand, 1) := by decide +kernel
theorem dX9_awaitReport_70 : decode cX9_awaitReport 70 = .ok (.iconst (-1), 1) := by decide +kernel
theorem dX9_awaitReport_71 : decode cX9_awaitReport 71 = .ok (.iconst 1, 1) := by decide +kernel
theorem dX9_awaitReport_72 : decode cX9_awaitReport 72 = .ok (.iconst 0, 1) := by decide +kernel
theorem dX9_awaitReport_73 : decode cX9_awaitReport 73 = .ok (.invokevirtual 265, 3) := by decide +kernel
theorem dX9_awaitReport_76 : decode cX9_awaitReport 76 = .ok (.aload_n 0, 1) := by decide +kernel
theorem dX9_awaitReport_77 : decode cX9_awaitReport 77 = .ok (.iload_n 1, 1) := by decide +kernel
theorem dX9_awaitReport_78 : decode cX9_awaitReport 78 = .ok (.iload_n 2, 1) := by decide +kernel
theorem dX9_awaitReport_79 : decode cX9_awaitReport 79 = .ok (.sipush 255, 3) := by decide +kernel
theorem dX9_awaitReport_82 : decode cX9_awaitReport 82 = .ok (.iand, 1) := by decide +kernel
theorem dX9_awaitReport_83 : decode cX9_awaitReport 83 = .ok (.iconst (-1), 1) := by decide +kernel
theorem dX9_awaitReport_84 : decode cX9_awaitReport 84 = .ok (.iconst 0, 1) := by decide +kernel
theorem dX9_awaitReport_85 : decode cX9_awaitReport 85 = .ok (.iload 4, 2) := by decide +kernel
theorem dX9_awaitReport_87 : decode cX9_awaitReport 87 = .ok (.ifCond .ne 7, 3) := by decide +kernel
theorem dX9_awaitReport_90 : decode cX9_awaitReport 90 = .ok (.iconst 1, 1) := by decide +kernel
theorem dX9_awaitReport_91 : decode cX9_awaitReport 91 = .ok (.goto 4, 3) := by decide +kernel
theorem dX9_awaitReport_94 : decode cX9_awaitReport 94 = .ok (.iconst 0, 1) := by decide +kernel
theorem dX9_awaitReport_95 : decode cX9_awaitReport 95 = .ok (.invokevirtual 265, 3) := by decide +kernel
theorem dX9_awaitReport_98 : decode cX9_awaitReport 98 = .ok (.iconst 0, 1) := by decide +kernel
theorem dX9_awaitReport_99 : decode cX9_awaitReport 99 = .ok (.istore 5, 2) := by decide +kernel
theorem dX9_awaitReport_101 : decode cX9_awaitReport 101 = .ok (.iload 5, 2) := by decide +kernel
theorem dX9_awaitReport_103 : decode cX9_awaitReport 103 = .ok (.iload 4, 2) := by decide +kernel
theorem dX9_awaitReport_105 : decode cX9_awaitReport 105 = .ok (.if_icmp .ge 101, 3) := by decide +kernel
theorem dX9_awaitReport_108 : decode cX9_awaitReport 108 = .ok (.iconst 0, 1) := by decide +kernel
theorem dX9_awaitReport_109 : decode cX9_awaitReport 109 = .ok (.istore 6, 2) := by decide +kernel
theorem dX9_awaitReport_111 : decode cX9_awaitReport 111 = .ok (.iconst 0, 1) := by decide +kernel
theorem dX9_awaitReport_112 : decode cX9_awaitReport 112 = .ok (.istore 7, 2) := by decide +kernel
theorem dX9_awaitReport_114 : decode cX9_awaitReport 114 = .ok (.iload 7, 2) := by decide +kernel
theorem dX9_awaitReport_116 : decode cX9_awaitReport 116 = .ok (.bipush 8, 2) := by decide +kernel
theorem dX9_awaitReport_118 : decode cX9_awaitReport 118 = .ok (.if_icmp .ge 59, 3) := by decide +kernel
theorem dX9_awaitReport_121 : decode cX9_awaitReport 121 = .ok (.bipush 8, 2) := by decide +kernel
theorem dX9_awaitReport_123 : decode cX9_awaitReport 123 = .ok (.iload 5, 2) := by decide +kernel
theorem dX9_awaitReport_125 : decode cX9_awaitReport 125 = .ok (.imul, 1) := by decide +kernel
theorem dX9_awaitReport_126 : decode cX9_awaitReport 126 = .ok (.iload 7, 2) := by decide +kernel
theorem dX9_awaitReport_128 : decode cX9_awaitReport 128 = .ok (.iadd, 1) := by decide +kernel
theorem dX9_awaitReport_129 : decode cX9_awaitReport 129 = .ok (.istore 8, 2) := by decide +kernel
theorem dX9_awaitReport_131 : decode cX9_awaitReport 131 = .ok (.iload 6, 2) := by decide +kernel
theorem dX9_awaitReport_133 : decode cX9_awaitReport 133 = .ok (.iconst 1, 1) := by decide +kernel
theorem dX9_awaitReport_134 : decode cX9_awaitReport 134 = .ok (.ishl, 1) := by decide +kernel
theorem dX9_awaitReport_135 : decode cX9_awaitReport 135 = .ok (.iload 8, 2) := by decide +kernel
theorem dX9_awaitReport_137 : decode cX9_awaitReport 137 = .ok (.iload_n 3, 1) := by decide +kernel
theorem dX9_awaitReport_138 : decode cX9_awaitReport 138 = .ok (.if_icmp .ge 29, 3) := by decide +kernel
theorem dX9_awaitReport_141 : decode cX9_awaitReport 141 = .ok (.aload_n 0, 1) := by decide +kernel
theorem dX9_awaitReport_142 : decode cX9_awaitReport 142 = .ok (.getfield 186, 3) := by decide +kernel
theorem dX9_awaitReport_145 : decode cX9_awaitReport 145 = .ok (.bipush 32, 2) := by decide +kernel
theorem dX9_awaitReport_147 : decode cX9_awaitReport 147 = .ok (.iload_n 1, 1) := by decide +kernel
theorem dX9_awaitReport_148 : decode cX9_awaitReport 148 = .ok (.imul, 1) := by decide +kernel
theorem dX9_awaitReport_149 : decode cX9_awaitReport 149 = .ok (.iload_n 2, 1) := by decide +kernel
theorem dX9_awaitReport_150 : decode cX9_awaitReport 150 = .ok (.iconst 1, 1) := by decide +kernel
theorem dX9_awaitReport_151 : decode cX9_awaitReport 151 = .ok (.iadd, 1) := by decide +kernel
theorem dX9_awaitReport_152 : decode cX9_awaitReport 152 = .ok (.iload 8, 2) := by decide +kernel
theorem dX9_awaitReport_154 : decode cX9_awaitReport 154 = .ok (.iadd, 1) := by decide +kernel
theorem dX9_awaitReport_155 : decode cX9_awaitReport 155 = .ok (.bipush 31, 2) := by decide +kernel
theorem dX9_awaitReport_157 : decode cX9_awaitReport 157 = .ok (.iand, 1) := by decide +kernel
theorem dX9_awaitReport_158 : decode cX9_awaitReport 158 = .ok (.iadd, 1) := by decide +kernel
theorem dX9_awaitReport_159 : decode cX9_awaitReport 159 = .ok (.baload, 1) := by decide +kernel
theorem dX9_awaitReport_160 : decode cX9_awaitReport 160 = .ok (.ifCond .eq 7, 3) := by decide +kernel
theorem dX9_awaitReport_163 : decode cX9_awaitReport 163 = .ok (.iconst 1, 1) := by decide +kernel
theorem dX9_awaitReport_164 : decode cX9_awaitReport 164 = .ok (.goto 4, 3) := by decide +kernel
theorem dX9_awaitReport_167 : decode cX9_awaitReport 167 = .ok (.iconst 0, 1) := by decide +kernel
theorem dX9_awaitReport_168 : decode cX9_awaitReport 168 = .ok (.ior, 1) := by decide +kernel
theorem dX9_awaitReport_169 : decode cX9_awaitReport 169 = .ok (.istore 6, 2) := by decide +kernel
theorem dX9_awaitReport_171 : decode cX9_awaitReport 171 = .ok (.iinc 7 1, 3) := by decide +kernel
theorem dX9_awaitReport_174 : decode cX9_awaitReport 174 = .ok (.goto (-60), 3) := by decide +kernel
theorem dX9_awaitReport_177 : decode cX9_awaitReport 177 = .ok (.aload_n 0, 1) := by decide +kernel
theorem dX9_awaitReport_178 : decode cX9_awaitReport 178 = .ok (.iload_n 1, 1) := by decide +kernel
theorem dX9_awaitReport_179 : decode cX9_awaitReport 179 = .ok (.iload 6, 2) := by decide +kernel
theorem dX9_awaitReport_181 : decode cX9_awaitReport 181 = .ok (.iconst (-1), 1) := by decide +kernel
theorem dX9_awaitReport_182 : decode cX9_awaitReport 182 = .ok (.iconst 0, 1) := by decide +kernel
theorem dX9_awaitReport_183 : decode cX9_awaitReport 183 = .ok (.iload 5, 2) := by decide +kernel
theorem dX9_awaitReport_185 : decode cX9_awaitReport 185 = .ok (.iconst 1, 1) := by decide +kernel
theorem dX9_awaitReport_186 : decode cX9_awaitReport 186 = .ok (.iadd, 1) := by decide +kernel
theorem dX9_awaitReport_187 : decode cX9_awaitReport 187 = .ok (.iload 4, 2) := by decide +kernel
theorem dX9_awaitReport_189 : decode cX9_awaitReport 189 = .ok (.if_icmp .ne 7, 3) := by decide +kernel
theorem dX9_awaitReport_192 : decode cX9_awaitReport 192 = .ok (.iconst 1, 1) := by decide +kernel
theorem dX9_awaitReport_193 : decode cX9_awaitReport 193 = .ok (.goto 4, 3) := by decide +kernel
theorem dX9_awaitReport_196 : decode cX9_awaitReport 196 = .ok (.iconst 0, 1) := by decide +kernel
theorem dX9_awaitReport_197 : decode cX9_awaitReport 197 = .ok (.invokevirtual 265, 3) := by decide +kernel
theorem dX9_awaitReport_200 : decode cX9_awaitReport 200 = .ok (.iinc 5 1, 3) := by decide +kernel
theorem dX9_awaitReport_203 : decode cX9_awaitReport 203 = .ok (.goto (-102), 3) := by decide +kernel
theorem dX9_awaitReport_206 : decode cX9_awaitReport 206 = .ok (.return_, 1) := by decide +kernel
theorem dX9_timers_0 : decode cX9_timers 0 = .ok (.aload_n 0, 1) := by decide +kernel
theorem dX9_timers_1 : decode cX9_timers 1 = .ok (.getfield 22, 3) := by decide +kernel
theorem dX9_timers_4 : decode cX9_timers 4 = .ok (.iload_n 1, 1) := by decide +kernel
theorem dX9_timers_5 : decode cX9_timers 5 = .ok (.iaload, 1) := by decide +kernel
theorem dX9_timers_6 : decode cX9_timers 6 = .ok (.ifCond .le 104, 3) := by decide +kernel
theorem dX9_timers_9 : decode cX9_timers 9 = .ok (.aload_n 0, 1) := by decide +kernel
theorem dX9_timers_10 : decode cX9_timers 10 = .ok (.getfield 22, 3) := by decide +kernel
theorem dX9_timers_13 : decode cX9_timers 13 = .ok (.iload_n 1, 1) := by decide +kernel
theorem dX9_timers_14 : decode cX9_timers 14 = .ok (.dup2, 1) := by decide +kernel
theorem dX9_timers_15 : decode cX9_timers 15 = .ok (.iaload, 1) := by decide +kernel
theorem dX9_timers_16 : decode cX9_timers 16 = .ok (.iconst 1, 1) := by decide +kernel
theorem dX9_timers_17 : decode cX9_timers 17 = .ok (.isub, 1) := by decide +kernel
theorem dX9_timers_18 : decode cX9_timers 18 = .ok (.iastore, 1) := by decide +kernel
theorem dX9_timers_19 : decode cX9_timers 19 = .ok (.aload_n 0, 1) := by decide +kernel
theorem dX9_timers_20 : decode cX9_timers 20 = .ok (.getfield 22, 3) := by decide +kernel
theorem dX9_timers_23 : decode cX9_timers 23 = .ok (.iload_n 1, 1) := by decide +kernel
theorem dX9_timers_24 : decode cX9_timers 24 = .ok (.iaload, 1) := by decide +kernel
theorem dX9_timers_25 : decode cX9_timers 25 = .ok (.ifCond .ne 85, 3) := by decide +kernel
theorem dX9_timers_28 : decode cX9_timers 28 = .ok (.aload_n 0, 1) := by decide +kernel
theorem dX9_timers_29 : decode cX9_timers 29 = .ok (.getfield 43, 3) := by decide +kernel
theorem dX9_timers_32 : decode cX9_timers 32 = .ok (.iload_n 1, 1) := by decide +kernel
theorem dX9_timers_33 : decode cX9_timers 33 = .ok (.iconst 1, 1) := by decide +kernel
theorem dX9_timers_34 : decode cX9_timers 34 = .ok (.bastore, 1) := by decide +kernel
theorem dX9_timers_35 : decode cX9_timers 35 = .ok (.aload_n 0, 1) := by decide +kernel
theorem dX9_timers_36 : decode cX9_timers 36 = .ok (.getfield 74, 3) := by decide +kernel
theorem dX9_timers_39 : decode cX9_timers 39 = .ok (.iload_n 1, 1) := by decide +kernel
theorem dX9_timers_40 : decode cX9_timers 40 = .ok (.iaload, 1) := by decide +kernel
theorem dX9_timers_41 : decode cX9_timers 41 = .ok (.ifCond .eq 21, 3) := by decide +kernel
theorem dX9_timers_44 : decode cX9_timers 44 = .ok (.aload_n 0, 1) := by decide +kernel
theorem dX9_timers_45 : decode cX9_timers 45 = .ok (.getfield 19, 3) := by decide +kernel
theorem dX9_timers_48 : decode cX9_timers 48 = .ok (.iload_n 1, 1) := by decide +kernel
theorem dX9_timers_49 : decode cX9_timers 49 = .ok (.iaload, 1) := by decide +kernel
theorem dX9_timers_50 : decode cX9_timers 50 = .ok (.aload_n 0, 1) := by decide +kernel
theorem dX9_timers_51 : decode cX9_timers 51 = .ok (.getfield 16, 3) := by decide +kernel
theorem dX9_timers_54 : decode cX9_timers 54 = .ok (.iload_n 1, 1) := by decide +kernel
theorem dX9_timers_55 : decode cX9_timers 55 = .ok (.iaload, 1) := by decide +kernel
theorem dX9_timers_56 : decode cX9_timers 56 = .ok (.isub, 1) := by decide +kernel
theorem dX9_timers_57 : decode cX9_timers 57 = .ok (.bipush 16, 2) := by decide +kernel
theorem dX9_timers_59 : decode cX9_timers 59 = .ok (.if_icmp .ne 7, 3) := by decide +kernel
theorem dX9_timers_62 : decode cX9_timers 62 = .ok (.iconst 1, 1) := by decide +kernel
theorem dX9_timers_63 : decode cX9_timers 63 = .ok (.goto 4, 3) := by decide +kernel
theorem dX9_timers_66 : decode cX9_timers 66 = .ok (.iconst 0, 1) := by decide +kernel
theorem dX9_timers_67 : decode cX9_timers 67 = .ok (.istore_n 2, 1) := by decide +kernel
theorem dX9_timers_68 : decode cX9_timers 68 = .ok (.aload_n 0, 1) := by decide +kernel
theorem dX9_timers_69 : decode cX9_timers 69 = .ok (.iload_n 1, 1) := by decide +kernel
theorem dX9_timers_70 : decode cX9_timers 70 = .ok (.invokevirtual 289, 3) := by decide +kernel
theorem dX9_timers_73 : decode cX9_timers 73 = .ok (.ifCond .ne 37, 3) := by decide +kernel
theorem dX9_timers_76 : decode cX9_timers 76 = .ok (.aload_n 0, 1) := by decide +kernel
theorem dX9_timers_77 : decode cX9_timers 77 = .ok (.getfield 16, 3) := by decide +kernel
theorem dX9_timers_80 : decode cX9_timers 80 = .ok (.iload_n 1, 1) := by decide +kernel
theorem dX9_timers_81 : decode cX9_timers 81 = .ok (.iaload, 1) := by decide +kernel
theorem dX9_timers_82 : decode cX9_timers 82 = .ok (.aload_n 0, 1) := by decide +kernel
theorem dX9_timers_83 : decode cX9_timers 83 = .ok (.getfield 19, 3) := by decide +kernel
theorem dX9_timers_86 : decode cX9_timers 86 = .ok (.iload_n 1, 1) := by decide +kernel
theorem dX9_timers_87 : decode cX9_timers 87 = .ok (.iaload, 1) := by decide +kernel
theorem dX9_timers_88 : decode cX9_timers 88 = .ok (.if_icmp .ge 22, 3) := by decide +kernel
theorem dX9_timers_91 : decode cX9_timers 91 = .ok (.iload_n 2, 1) := by decide +kernel
theorem dX9_timers_92 : decode cX9_timers 92 = .ok (.ifCond .eq 18, 3) := by decide +kernel
theorem dX9_timers_95 : decode cX9_timers 95 = .ok (.aload_n 0, 1) := by decide +kernel
theorem dX9_timers_96 : decode cX9_timers 96 = .ok (.iload_n 1, 1) := by decide +kernel
theorem dX9_timers_97 : decode cX9_timers 97 = .ok (.aload_n 0, 1) := by decide +kernel
theorem dX9_timers_98 : decode cX9_timers 98 = .ok (.getfield 16, 3) := by decide +kernel
theorem dX9_timers_101 : decode cX9_timers 101 = .ok (.iload_n 1, 1) := by decide +kernel
theorem dX9_timers_102 : decode cX9_timers 102 = .ok (.iaload, 1) := by decide +kernel
theorem dX9_timers_103 : decode cX9_timers 103 = .ok (.iconst 0, 1) := by decide +kernel
theorem dX9_timers_104 : decode cX9_timers 104 = .ok (.sipush 240, 3) := by decide +kernel
theorem dX9_timers_107 : decode cX9_timers 107 = .ok (.invokevirtual 327, 3) := by decide +kernel
theorem dX9_timers_110 : decode cX9_timers 110 = .ok (.aload_n 0, 1) := by decide +kernel
theorem dX9_timers_111 : decode cX9_timers 111 = .ok (.getfield 119, 3) := by decide +kernel
theorem dX9_timers_114 : decode cX9_timers 114 = .ok (.iload_n 1, 1) := by decide +kernel
theorem dX9_timers_115 : decode cX9_timers 115 = .ok (.iaload, 1) := by decide +kernel
theorem dX9_timers_116 : decode cX9_timers 116 = .ok (.ifCond .le 101, 3) := by decide +kernel
theorem dX9_timers_119 : decode cX9_timers 119 = .ok (.aload_n 0, 1) := by decide +kernel
theorem dX9_timers_120 : decode cX9_timers 120 = .ok (.getfield 119, 3) := by decide +kernel
theorem dX9_timers_123 : decode cX9_timers 123 = .ok (.iload_n 1, 1) := by decide +kernel
theorem dX9_timers_124 : decode cX9_timers 124 = .ok (.dup2, 1) := by decide +kernel
theorem dX9_timers_125 : decode cX9_timers 125 = .ok (.iaload, 1) := by decide +kernel
theorem dX9_timers_126 : decode cX9_timers 126 = .ok (.iconst 1, 1) := by decide +kernel
theorem dX9_timers_127 : decode cX9_timers 127 = .ok (.isub, 1) := by decide +kernel
theorem dX9_timers_128 : decode cX9_timers 128 = .ok (.iastore, 1) := by decide +kernel
theorem dX9_timers_129 : decode cX9_timers 129 = .ok (.aload_n 0, 1) := by decide +kernel
theorem dX9_timers_130 : decode cX9_timers 130 = .ok (.getfield 119, 3) := by decide +kernel
theorem dX9_timers_133 : decode cX9_timers 133 = .ok (.iload_n 1, 1) := by decide +kernel
theorem dX9_timers_134 : decode cX9_timers 134 = .ok (.iaload, 1) := by decide +kernel
theorem dX9_timers_135 : decode cX9_timers 135 = .ok (.ifCond .ne 82, 3) := by decide +kernel
theorem dX9_timers_138 : decode cX9_timers 138 = .ok (.aload_n 0, 1) := by decide +kernel
theorem dX9_timers_139 : decode cX9_timers 139 = .ok (.getfield 113, 3) := by decide +kernel
theorem dX9_timers_142 : decode cX9_timers 142 = .ok (.iload_n 1, 1) := by decide +kernel
theorem dX9_timers_143 : decode cX9_timers 143 = .ok (.iaload, 1) := by decide +kernel
theorem dX9_timers_144 : decode cX9_timers 144 = .ok (.aload_n 0, 1) := by decide +kernel
theorem dX9_timers_145 : decode cX9_timers 145 = .ok (.getfield 116, 3) := by decide +kernel
theorem dX9_timers_148 : decode cX9_timers 148 = .ok (.iload_n 1, 1) := by decide +kernel
theorem dX9_timers_149 : decode cX9_timers 149 = .ok (.iaload, 1) := by decide +kernel
theorem dX9_timers_150 : decode cX9_timers 150 = .ok (.if_icmp .ge 15, 3) := by decide +kernel
theorem dX9_timers_153 : decode cX9_timers 153 = .ok (.aload_n 0, 1) := by decide +kernel
theorem dX9_timers_154 : decode cX9_timers 154 = .ok (.getfield 113, 3) := by decide +kernel
theorem dX9_timers_157 : decode cX9_timers 157 = .ok (.iload_n 1, 1) := by decide +kernel
theorem dX9_timers_158 : decode cX9_timers 158 = .ok (.aload_n 0, 1) := by decide +kernel
theorem dX9_timers_159 : decode cX9_timers 159 = .ok (.getfield 116, 3) := by decide +kernel
theorem dX9_timers_162 : decode cX9_timers 162 = .ok (.iload_n 1, 1) := by decide +kernel
theorem dX9_timers_163 : decode cX9_timers 163 = .ok (.iaload, 1) := by decide +kernel
theorem dX9_timers_164 : decode cX9_timers 164 = .ok (.iastore, 1) := by decide +kernel
theorem dX9_timers_165 : decode cX9_timers 165 = .ok (.aload_n 0, 1) := by decide +kernel
theorem dX9_timers_166 : decode cX9_timers 166 = .ok (.iload_n 1, 1) := by decide +kernel
theorem dX9_timers_167 : decode cX9_timers 167 = .ok (.invokevirtual 337, 3) := by decide +kernel
theorem dX9_timers_170 : decode cX9_timers 170 = .ok (.aload_n 0, 1) := by decide +kernel
theorem dX9_timers_171 : decode cX9_timers 171 = .ok (.getfield 137, 3) := by decide +kernel
theorem dX9_timers_174 : decode cX9_timers 174 = .ok (.iload_n 1, 1) := by decide +kernel
theorem dX9_timers_175 : decode cX9_timers 175 = .ok (.iconst 1, 1) := by decide +kernel
theorem dX9_timers_176 : decode cX9_timers 176 = .ok (.bastore, 1) := by decide +kernel
theorem dX9_timers_177 : decode cX9_timers 177 = .ok (.aload_n 0, 1) := by decide +kernel
theorem dX9_timers_178 : decode cX9_timers 178 = .ok (.iload_n 1, 1) := by decide +kernel
theorem dX9_timers_179 : decode cX9_timers 179 = .ok (.invokevirtual 347, 3) := by decide +kernel
theorem dX9_timers_182 : decode cX9_timers 182 = .ok (.aload_n 0, 1) := by decide +kernel
theorem dX9_timers_183 : decode cX9_timers 183 = .ok (.getfield 110, 3) := by decide +kernel
theorem dX9_timers_186 : decode cX9_timers 186 = .ok (.iload_n 1, 1) := by decide +kernel
theorem dX9_timers_187 : decode cX9_timers 187 = .ok (.iaload, 1) := by decide +kernel
theorem dX9_timers_188 : decode cX9_timers 188 = .ok (.aload_n 0, 1) := by decide +kernel
theorem dX9_timers_189 : decode cX9_timers 189 = .ok (.getfield 113, 3) := by decide +kernel
theorem dX9_timers_192 : decode cX9_timers 192 = .ok (.iload_n 1, 1) := by decide +kernel
theorem dX9_timers_193 : decode cX9_timers 193 = .ok (.iaload, 1) := by decide +kernel
theorem dX9_timers_194 : decode cX9_timers 194 = .ok (.if_icmp .le 23, 3) := by decide +kernel
theorem dX9_timers_197 : decode cX9_timers 197 = .ok (.aload_n 0, 1) := by decide +kernel
theorem dX9_timers_198 : decode cX9_timers 198 = .ok (.getfield 119, 3) := by decide +kernel
theorem dX9_timers_201 : decode cX9_timers 201 = .ok (.iload_n 1, 1) := by decide +kernel
theorem dX9_timers_202 : decode cX9_timers 202 = .ok (.bipush 6, 2) := by decide +kernel
theorem dX9_timers_204 : decode cX9_timers 204 = .ok (.iastore, 1) := by decide +kernel
theorem dX9_timers_205 : decode cX9_timers 205 = .ok (.aload_n 0, 1) := by decide +kernel
theorem dX9_timers_206 : decode cX9_timers 206 = .ok (.getfield 116, 3) := by decide +kernel
theorem dX9_timers_209 : decode cX9_timers 209 = .ok (.iload_n 1, 1) := by decide +kernel
theorem dX9_timers_210 : decode cX9_timers 210 = .ok (.aload_n 0, 1) := by decide +kernel
theorem dX9_timers_211 : decode cX9_timers 211 = .ok (.getfield 110, 3) := by decide +kernel
theorem dX9_timers_214 : decode cX9_timers 214 = .ok (.iload_n 1, 1) := by decide +kernel
theorem dX9_timers_215 : decode cX9_timers 215 = .ok (.iaload, 1) := by decide +kernel
theorem dX9_timers_216 : decode cX9_timers 216 = .ok (.iastore, 1) := by decide +kernel
theorem dX9_timers_217 : decode cX9_timers 217 = .ok (.aload_n 0, 1) := by decide +kernel
theorem dX9_timers_218 : decode cX9_timers 218 = .ok (.getfield 122, 3) := by decide +kernel
theorem dX9_timers_221 : decode cX9_timers 221 = .ok (.iload_n 1, 1) := by decide +kernel
theorem dX9_timers_222 : decode cX9_timers 222 = .ok (.iaload, 1) := by decide +kernel
theorem dX9_timers_223 : decode cX9_timers 223 = .ok (.ifCond .le 13, 3) := by decide +kernel
theorem dX9_timers_226 : decode cX9_timers 226 = .ok (.aload_n 0, 1) := by decide +kernel
theorem dX9_timers_227 : decode cX9_timers 227 = .ok (.getfield 122, 3) := by decide +kernel
theorem dX9_timers_230 : decode cX9_timers 230 = .ok (.iload_n 1, 1) := by decide +kernel
theorem dX9_timers_231 : decode cX9_timers 231 = .ok (.dup2, 1) := by decide +kernel
theorem dX9_timers_232 : decode cX9_timers 232 = .ok (.iaload, 1) := by decide +kernel
theorem dX9_timers_233 : decode cX9_timers 233 = .ok (.iconst 1, 1) := by decide +kernel
theorem dX9_timers_234 : decode cX9_timers 234 = .ok (.isub, 1) := by decide +kernel
theorem dX9_timers_235 : decode cX9_timers 235 = .ok (.iastore, 1) := by decide +kernel
theorem dX9_timers_236 : decode cX9_timers 236 = .ok (.return_, 1) := by decide +kernel
theorem dX9_lay_0 : decode cX9_lay 0 = .ok (.iconst 0, 1) := by decide +kernel
theorem dX9_lay_1 : decode cX9_lay 1 = .ok (.istore_n 3, 1) := by decide +kernel
theorem dX9_lay_2 : decode cX9_lay 2 = .ok (.iconst 0, 1) := by decide +kernel
theorem dX9_lay_3 : decode cX9_lay 3 = .ok (.istore 4, 2) := by decide +kernel
theorem dX9_lay_5 : decode cX9_lay 5 = .ok (.iload 4, 2) := by decide +kernel
theorem dX9_lay_7 : decode cX9_lay 7 = .ok (.iconst 2, 1) := by decide +kernel
theorem dX9_lay_8 : decode cX9_lay 8 = .ok (.if_icmp .ge 215, 3) := by decide +kernel
theorem dX9_lay_11 : decode cX9_lay 11 = .ok (.iconst 0, 1) := by decide +kernel
theorem dX9_lay_12 : decode cX9_lay 12 = .ok (.istore 5, 2) := by decide +kernel
theorem dX9_lay_14 : decode cX9_lay 14 = .ok (.iload 5, 2) := by decide +kernel
theorem dX9_lay_16 : decode cX9_lay 16 = .ok (.aload_n 0, 1) := by decide +kernel
theorem dX9_lay_17 : decode cX9_lay 17 = .ok (.getfield 228, 3) := by decide +kernel
theorem dX9_lay_20 : decode cX9_lay 20 = .ok (.if_icmp .ge 197, 3) := by decide +kernel
theorem dX9_lay_23 : decode cX9_lay 23 = .ok (.iload_n 1, 1) := by decide +kernel
theorem dX9_lay_24 : decode cX9_lay 24 = .ok (.iload 5, 2) := by decide +kernel
theorem dX9_lay_26 : decode cX9_lay 26 = .ok (.invokestatic 258, 3) := by decide +kernel
theorem dX9_lay_29 : decode cX9_lay 29 = .ok (.istore 6, 2) := by decide +kernel
theorem dX9_lay_31 : decode cX9_lay 31 = .ok (.iload 4, 2) := by decide +kernel
theorem dX9_lay_33 : decode cX9_lay 33 = .ok (.iconst 1, 1) := by decide +kernel
theorem dX9_lay_34 : decode cX9_lay 34 = .ok (.if_icmp .eq 13, 3) := by decide +kernel
theorem dX9_lay_37 : decode cX9_lay 37 = .ok (.aload_n 0, 1) := by decide +kernel
theorem dX9_lay_38 : decode cX9_lay 38 = .ok (.getfield 31, 3) := by decide +kernel
theorem dX9_lay_41 : decode cX9_lay 41 = .ok (.iload 6, 2) := by decide +kernel
theorem dX9_lay_43 : decode cX9_lay 43 = .ok (.iaload, 1) := by decide +kernel
theorem dX9_lay_44 : decode cX9_lay 44 = .ok (.ifCond .le 7, 3) := by decide +kernel
theorem dX9_lay_47 : decode cX9_lay 47 = .ok (.iconst 1, 1) := by decide +kernel
theorem dX9_lay_48 : decode cX9_lay 48 = .ok (.goto 4, 3) := by decide +kernel
theorem dX9_lay_51 : decode cX9_lay 51 = .ok (.iconst 0, 1) := by decide +kernel
theorem dX9_lay_52 : decode cX9_lay 52 = .ok (.istore 7, 2) := by decide +kernel
theorem dX9_lay_54 : decode cX9_lay 54 = .ok (.iload 7, 2) := by decide +kernel
theorem dX9_lay_56 : decode cX9_lay 56 = .ok (.ifCond .eq 155, 3) := by decide +kernel
theorem dX9_lay_59 : decode cX9_lay 59 = .ok (.iload_n 2, 1) := by decide +kernel
theorem dX9_lay_60 : decode cX9_lay 60 = .ok (.iload_n 3, 1) := by decide +kernel
theorem dX9_lay_61 : decode cX9_lay 61 = .ok (.isub, 1) := by decide +kernel
theorem dX9_lay_62 : decode cX9_lay 62 = .ok (.istore 8, 2) := by decide +kernel
theorem dX9_lay_64 : decode cX9_lay 64 = .ok (.iload 4, 2) := by decide +kernel
theorem dX9_lay_66 : decode cX9_lay 66 = .ok (.ifCond .ne 24, 3) := by decide +kernel
theorem dX9_lay_69 : decode cX9_lay 69 = .ok (.aload_n 0, 1) := by decide +kernel
theorem dX9_lay_70 : decode cX9_lay 70 = .ok (.getfield 31, 3) := by decide +kernel
theorem dX9_lay_73 : decode cX9_lay 73 = .ok (.iload 6, 2) := by decide +kernel
theorem dX9_lay_75 : decode cX9_lay 75 = .ok (.iaload, 1) := by decide +kernel
theorem dX9_lay_76 : decode cX9_lay 76 = .ok (.iload 8, 2) := by decide +kernel
theorem dX9_lay_78 : decode cX9_lay 78 = .ok (.if_icmp .ge 12, 3) := by decide +kernel
theorem dX9_lay_81 : decode cX9_lay 81 = .ok (.aload_n 0, 1) := by decide +kernel
theorem dX9_lay_82 : decode cX9_lay 82 = .ok (.getfield 31, 3) := by decide +kernel
theorem dX9_lay_85 : decode cX9_lay 85 = .ok (.iload 6, 2) := by decide +kernel
theorem dX9_lay_87 : decode cX9_lay 87 = .ok (.iaload, 1) := by decide +kernel
theorem dX9_lay_88 : decode cX9_lay 88 = .ok (.istore 8, 2) := by decide +kernel
theorem dX9_lay_90 : decode cX9_lay 90 = .ok (.iload 8, 2) := by decide +kernel
theorem dX9_lay_92 : decode cX9_lay 92 = .ok (.iconst 2, 1) := by decide +kernel
theorem dX9_lay_93 : decode cX9_lay 93 = .ok (.isub, 1) := by decide +kernel
theorem dX9_lay_94 : decode cX9_lay 94 = .ok (.iconst 1, 1) := by decide +kernel
theorem dX9_lay_95 : decode cX9_lay 95 = .ok (.if_icmp .ge 7, 3) := by decide +kernel
theorem dX9_lay_98 : decode cX9_lay 98 = .ok (.iconst 0, 1) := by decide +kernel
theorem dX9_lay_99 : decode cX9_lay 99 = .ok (.goto 14, 3) := by decide +kernel
theorem dX9_lay_102 : decode cX9_lay 102 = .ok (.aload_n 0, 1) := by decide +kernel
theorem dX9_lay_103 : decode cX9_lay 103 = .ok (.iload_n 1, 1) := by decide +kernel
theorem dX9_lay_104 : decode cX9_lay 104 = .ok (.iload 5, 2) := by decide +kernel
theorem dX9_lay_106 : decode cX9_lay 106 = .ok (.iload 8, 2) := by decide +kernel
theorem dX9_lay_108 : decode cX9_lay 108 = .ok (.iconst 2, 1) := by decide +kernel
theorem dX9_lay_109 : decode cX9_lay 109 = .ok (.isub, 1) := by decide +kernel
theorem dX9_lay_110 : decode cX9_lay 110 = .ok (.invokevirtual 359, 3) := by decide +kernel
theorem dX9_lay_113 : decode cX9_lay 113 = .ok (.istore 9, 2) := by decide +kernel
theorem dX9_lay_115 : decode cX9_lay 115 = .ok (.iload 9, 2) := by decide +kernel
theorem dX9_lay_117 : decode cX9_lay 117 = .ok (.ifCond .le 7, 3) := by decide +kernel
theorem dX9_lay_120 : decode cX9_lay 120 = .ok (.iconst 1, 1) := by decide +kernel
theorem dX9_lay_121 : decode cX9_lay 121 = .ok (.goto 4, 3) := by decide +kernel
theorem dX9_lay_124 : decode cX9_lay 124 = .ok (.iconst 0, 1) := by decide +kernel
theorem dX9_lay_125 : decode cX9_lay 125 = .ok (.istore 7, 2) := by decide +kernel
theorem dX9_lay_127 : decode cX9_lay 127 = .ok (.iload 7, 2) := by decide +kernel
theorem dX9_lay_129 : decode cX9_lay 129 = .ok (.ifCond .ne 6, 3) := by decide +kernel
theorem dX9_lay_132 : decode cX9_lay 132 = .ok (.goto (-78), 3) := by decide +kernel
theorem dX9_lay_135 : decode cX9_lay 135 = .ok (.aload_n 0, 1) := by decide +kernel
theorem dX9_lay_136 : decode cX9_lay 136 = .ok (.getfield 225, 3) := by decide +kernel
theorem dX9_lay_139 : decode cX9_lay 139 = .ok (.iload_n 3, 1) := by decide +kernel
theorem dX9_lay_140 : decode cX9_lay 140 = .ok (.iload 5, 2) := by decide +kernel
theorem dX9_lay_142 : decode cX9_lay 142 = .ok (.iastore, 1) := by decide +kernel
theorem dX9_lay_143 : decode cX9_lay 143 = .ok (.aload_n 0, 1) := by decide +kernel
theorem dX9_lay_144 : decode cX9_lay 144 = .ok (.getfield 225, 3) := by decide +kernel
theorem dX9_lay_147 : decode cX9_lay 147 = .ok (.iload_n 3, 1) := by decide +kernel
theorem dX9_lay_148 : decode cX9_lay 148 = .ok (.iconst 1, 1) := by decide +kernel
theorem dX9_lay_149 : decode cX9_lay 149 = .ok (.iadd, 1) := by decide +kernel
theorem dX9_lay_150 : decode cX9_lay 150 = .ok (.iload 9, 2) := by decide +kernel
theorem dX9_lay_152 : decode cX9_lay 152 = .ok (.iastore, 1) := by decide +kernel
theorem dX9_lay_153 : decode cX9_lay 153 = .ok (.iconst 0, 1) := by decide +kernel
theorem dX9_lay_154 : decode cX9_lay 154 = .ok (.istore 10, 2) := by decide +kernel
theorem dX9_lay_156 : decode cX9_lay 156 = .ok (.iload 10, 2) := by decide +kernel
theorem dX9_lay_158 : decode cX9_lay 158 = .ok (.iload 9, 2) := by decide +kernel
theorem dX9_lay_160 : decode cX9_lay 160 = .ok (.if_icmp .ge 27, 3) := by decide +kernel
theorem dX9_lay_163 : decode cX9_lay 163 = .ok (.aload_n 0, 1) := by decide +kernel
theorem dX9_lay_164 : decode cX9_lay 164 = .ok (.getfield 225, 3) := by decide +kernel
theorem dX9_lay_167 : decode cX9_lay 167 = .ok (.iload_n 3, 1) := by decide +kernel
theorem dX9_lay_168 : decode cX9_lay 168 = .ok (.iconst 2, 1) := by decide +kernel
theorem dX9_lay_169 : decode cX9_lay 169 = .ok (.iadd, 1) := by decide +kernel
theorem dX9_lay_170 : decode cX9_lay 170 = .ok (.iload 10, 2) := by decide +kernel
theorem dX9_lay_172 : decode cX9_lay 172 = .ok (.iadd, 1) := by decide +kernel
theorem dX9_lay_173 : decode cX9_lay 173 = .ok (.aload_n 0, 1) := by decide +kernel
theorem dX9_lay_174 : decode cX9_lay 174 = .ok (.getfield 207, 3) := by decide +kernel
theorem dX9_lay_177 : decode cX9_lay 177 = .ok (.iload 10, 2) := by decide +kernel
theorem dX9_lay_179 : decode cX9_lay 179 = .ok (.iaload, 1) := by decide +kernel
theorem dX9_lay_180 : decode cX9_lay 180 = .ok (.iastore, 1) := by decide +kernel
theorem dX9_lay_181 : decode cX9_lay 181 = .ok (.iinc 10 1, 3) := by decide +kernel
theorem dX9_lay_184 : decode cX9_lay 184 = .ok (.goto (-28), 3) := by decide +kernel
theorem dX9_lay_187 : decode cX9_lay 187 = .ok (.iload_n 3, 1) := by decide +kernel
theorem dX9_lay_188 : decode cX9_lay 188 = .ok (.iload 9, 2) := by decide +kernel
theorem dX9_lay_190 : decode cX9_lay 190 = .ok (.iconst 2, 1) := by decide +kernel
theorem dX9_lay_191 : decode cX9_lay 191 = .ok (.iadd, 1) := by decide +kernel
theorem dX9_lay_192 : decode cX9_lay 192 = .ok (.iadd, 1) := by decide +kernel
theorem dX9_lay_193 : decode cX9_lay 193 = .ok (.istore_n 3, 1) := by decide +kernel
theorem dX9_lay_194 : decode cX9_lay 194 = .ok (.aload_n 0, 1) := by decide +kernel
theorem dX9_lay_195 : decode cX9_lay 195 = .ok (.getfield 31, 3) := by decide +kernel
theorem dX9_lay_198 : decode cX9_lay 198 = .ok (.iload 6, 2) := by decide +kernel
theorem dX9_lay_200 : decode cX9_lay 200 = .ok (.dup2, 1) := by decide +kernel
theorem dX9_lay_201 : decode cX9_lay 201 = .ok (.iaload, 1) := by decide +kernel
theorem dX9_lay_202 : decode cX9_lay 202 = .ok (.iload 9, 2) := by decide +kernel
theorem dX9_lay_204 : decode cX9_lay 204 = .ok (.iconst 2, 1) := by decide +kernel
theorem dX9_lay_205 : decode cX9_lay 205 = .ok (.iadd, 1) := by decide +kernel
theorem dX9_lay_206 : decode cX9_lay 206 = .ok (.isub, 1) := by decide +kernel
theorem dX9_lay_207 : decode cX9_lay 207 = .ok (.iastore, 1) := by decide +kernel
theorem dX9_lay_208 : decode cX9_lay 208 = .ok (.goto (-154), 3) := by decide +kernel
theorem dX9_lay_211 : decode cX9_lay 211 = .ok (.iinc 5 1, 3) := by decide +kernel
theorem dX9_lay_214 : decode cX9_lay 214 = .ok (.goto (-200), 3) := by decide +kernel
theorem dX9_lay_217 : decode cX9_lay 217 = .ok (.iinc 4 1, 3) := by decide +kernel
theorem dX9_lay_220 : decode cX9_lay 220 = .ok (.goto (-215), 3) := by decide +kernel
theorem dX9_lay_223 : decode cX9_lay 223 = .ok (.iload_n 3, 1) := by decide +kernel
theorem dX9_lay_224 : decode cX9_lay 224 = .ok (.ifCond .ne 5, 3) := by decide +kernel
theorem dX9_lay_227 : decode cX9_lay 227 = .ok (.iconst 0, 1) := by decide +kernel
theorem dX9_lay_228 : decode cX9_lay 228 = .ok (.ireturn, 1) := by decide +kernel
theorem dX9_lay_229 : decode cX9_lay 229 = .ok (.iload_n 3, 1) := by decide +kernel
theorem dX9_lay_230 : decode cX9_lay 230 = .ok (.istore 4, 2) := by decide +kernel
theorem dX9_lay_232 : decode cX9_lay 232 = .ok (.iload 4, 2) := by decide +kernel
theorem dX9_lay_234 : decode cX9_lay 234 = .ok (.iload_n 2, 1) := by decide +kernel
theorem dX9_lay_235 : decode cX9_lay 235 = .ok (.if_icmp .ge 29, 3) := by decide +kernel
theorem dX9_lay_238 : decode cX9_lay 238 = .ok (.aload_n 0, 1) := by decide +kernel
theorem dX9_lay_239 : decode cX9_lay 239 = .ok (.getfield 225, 3) := by decide +kernel
theorem dX9_lay_242 : decode cX9_lay 242 = .ok (.iload 4, 2) := by decide +kernel
theorem dX9_lay_244 : decode cX9_lay 244 = .ok (.iload 4, 2) := by decide +kernel
theorem dX9_lay_246 : decode cX9_lay 246 = .ok (.iload_n 3, 1) := by decide +kernel
theorem dX9_lay_247 : decode cX9_lay 247 = .ok (.if_icmp .ne 9, 3) := by decide +kernel
theorem dX9_lay_250 : decode cX9_lay 250 = .ok (.sipush 255, 3) := by decide +kernel
theorem dX9_lay_253 : decode cX9_lay 253 = .ok (.goto 4, 3) := by decide +kernel
theorem dX9_lay_256 : decode cX9_lay 256 = .ok (.iconst 0, 1) := by decide +kernel
theorem dX9_lay_257 : decode cX9_lay 257 = .ok (.iastore, 1) := by decide +kernel
theorem dX9_lay_258 : decode cX9_lay 258 = .ok (.iinc 4 1, 3) := by decide +kernel
theorem dX9_lay_261 : decode cX9_lay 261 = .ok (.goto (-29), 3) := by decide +kernel
theorem dX9_lay_264 : decode cX9_lay 264 = .ok (.iconst 1, 1) := by decide +kernel
theorem dX9_lay_265 : decode cX9_lay 265 = .ok (.ireturn, 1) := by decide +kernel
theorem dX9_sends_0 : decode cX9_sends 0 = .ok (.iconst 4, 1) := by decide +kernel
theorem dX9_sends_1 : decode cX9_sends 1 = .ok (.iload_n 1, 1) := by decide +kernel
theorem dX9_sends_2 : decode cX9_sends 2 = .ok (.imul, 1) := by decide +kernel
theorem dX9_sends_3 : decode cX9_sends 3 = .ok (.aload_n 0, 1) := by decide +kernel
theorem dX9_sends_4 : decode cX9_sends 4 = .ok (.getfield 363, 3) := by decide +kernel
theorem dX9_sends_7 : decode cX9_sends 7 = .ok (.iconst 3, 1) := by decide +kernel
theorem dX9_sends_8 : decode cX9_sends 8 = .ok (.iand, 1) := by decide +kernel
theorem dX9_sends_9 : decode cX9_sends 9 = .ok (.iadd, 1) := by decide +kernel
theorem dX9_sends_10 : decode cX9_sends 10 = .ok (.istore 5, 2) := by decide +kernel
theorem dX9_sends_12 : decode cX9_sends 12 = .ok (.aload_n 0, 1) := by decide +kernel
theorem dX9_sends_13 : decode cX9_sends 13 = .ok (.getfield 201, 3) := by decide +kernel
theorem dX9_sends_16 : decode cX9_sends 16 = .ok (.iload_n 1, 1) := by decide +kernel
theorem dX9_sends_17 : decode cX9_sends 17 = .ok (.iconst (-1), 1) := by decide +kernel
theorem dX9_sends_18 : decode cX9_sends 18 = .ok (.iastore, 1) := by decide +kernel
theorem dX9_sends_19 : decode cX9_sends 19 = .ok (.aload_n 0, 1) := by decide +kernel
theorem dX9_sends_20 : decode cX9_sends 20 = .ok (.getfield 189, 3) := by decide +kernel
theorem dX9_sends_23 : decode cX9_sends 23 = .ok (.iload 5, 2) := by decide +kernel
theorem dX9_sends_25 : decode cX9_sends 25 = .ok (.iaload, 1) := by decide +kernel
theorem dX9_sends_26 : decode cX9_sends 26 = .ok (.ifCond .ne 66, 3) := by decide +kernel
theorem dX9_sends_29 : decode cX9_sends 29 = .ok (.aload_n 0, 1) := by decide +kernel
theorem dX9_sends_30 : decode cX9_sends 30 = .ok (.iload_n 1, 1) := by decide +kernel
theorem dX9_sends_31 : decode cX9_sends 31 = .ok (.iload_n 2, 1) := by decide +kernel
theorem dX9_sends_32 : decode cX9_sends 32 = .ok (.invokevirtual 366, 3) := by decide +kernel
theorem dX9_sends_35 : decode cX9_sends 35 = .ok (.ifCond .ne 5, 3) := by decide +kernel
theorem dX9_sends_38 : decode cX9_sends 38 = .ok (.iconst 0, 1) := by decide +kernel
theorem dX9_sends_39 : decode cX9_sends 39 = .ok (.ireturn, 1) := by decide +kernel
theorem dX9_sends_40 : decode cX9_sends 40 = .ok (.aload_n 0, 1) := by decide +kernel
theorem dX9_sends_41 : decode cX9_sends 41 = .ok (.getfield 192, 3) := by decide +kernel
theorem dX9_sends_44 : decode cX9_sends 44 = .ok (.iload 5, 2) := by decide +kernel
theorem dX9_sends_46 : decode cX9_sends 46 = .ok (.iload_n 2, 1) := by decide +kernel
theorem dX9_sends_47 : decode cX9_sends 47 = .ok (.iastore, 1) := by decide +kernel
theorem dX9_sends_48 : decode cX9_sends 48 = .ok (.aload_n 0, 1) := by decide +kernel
theorem dX9_sends_49 : decode cX9_sends 49 = .ok (.getfield 198, 3) := by decide +kernel
theorem dX9_sends_52 : decode cX9_sends 52 = .ok (.iload 5, 2) := by decide +kernel
theorem dX9_sends_54 : decode cX9_sends 54 = .ok (.iconst 0, 1) := by decide +kernel
theorem dX9_sends_55 : decode cX9_sends 55 = .ok (.bastore, 1) := by decide +kernel
theorem dX9_sends_56 : decode cX9_sends 56 = .ok (.iconst 0, 1) := by decide +kernel
theorem dX9_sends_57 : decode cX9_sends 57 = .ok (.istore 6, 2) := by decide +kernel
theorem dX9_sends_59 : decode cX9_sends 59 = .ok (.iload 6, 2) := by decide +kernel
theorem dX9_sends_61 : decode cX9_sends 61 = .ok (.iload_n 2, 1) := by decide +kernel
theorem dX9_sends_62 : decode cX9_sends 62 = .ok (.if_icmp .ge 30, 3) := by decide +kernel
theorem dX9_sends_65 : decode cX9_sends 65 = .ok (.aload_n 0, 1) := by decide +kernel
theorem dX9_sends_66 : decode cX9_sends 66 = .ok (.getfield 195, 3) := by decide +kernel
theorem dX9_sends_69 : decode cX9_sends 69 = .ok (.sipush 250, 3) := by decide +kernel
theorem dX9_sends_72 : decode cX9_sends 72 = .ok (.iload 5, 2) := by decide +kernel
theorem dX9_sends_74 : decode cX9_sends 74 = .ok (.imul, 1) := by decide +kernel
theorem dX9_sends_75 : decode cX9_sends 75 = .ok (.iload 6, 2) := by decide +kernel
theorem dX9_sends_77 : decode cX9_sends 77 = .ok (.iadd, 1) := by decide +kernel
theorem dX9_sends_78 : decode cX9_sends 78 = .ok (.aload_n 0, 1) := by decide +kernel
theorem dX9_sends_79 : decode cX9_sends 79 = .ok (.getfield 225, 3) := by decide +kernel
theorem dX9_sends_82 : decode cX9_sends 82 = .ok (.iload 6, 2) := by decide +kernel
theorem dX9_sends_84 : decode cX9_sends 84 = .ok (.iaload, 1) := by decide +kernel
theorem dX9_sends_85 : decode cX9_sends 85 = .ok (.iastore, 1) := by decide +kernel
theorem dX9_sends_86 : decode cX9_sends 86 = .ok (.iinc 6 1, 3) := by decide +kernel
theorem dX9_sends_89 : decode cX9_sends 89 = .ok (.goto (-30), 3) := by decide +kernel
theorem dX9_sends_92 : decode cX9_sends 92 = .ok (.aload_n 0, 1) := by decide +kernel
theorem dX9_sends_93 : decode cX9_sends 93 = .ok (.getfield 189, 3) := by decide +kernel
theorem dX9_sends_96 : decode cX9_sends 96 = .ok (.iload 5, 2) := by decide +kernel
theorem dX9_sends_98 : decode cX9_sends 98 = .ok (.dup2, 1) := by decide +kernel
theorem dX9_sends_99 : decode cX9_sends 99 = .ok (.iaload, 1) := by decide +kernel
theorem dX9_sends_100 : decode cX9_sends 100 = .ok (.iconst 1, 1) := by decide +kernel
theorem dX9_sends_101 : decode cX9_sends 101 = .ok (.iadd, 1) := by decide +kernel
theorem dX9_sends_102 : decode cX9_sends 102 = .ok (.iastore, 1) := by decide +kernel
theorem dX9_sends_103 : decode cX9_sends 103 = .ok (.aload_n 0, 1) := by decide +kernel
theorem dX9_sends_104 : decode cX9_sends 104 = .ok (.dup, 1) := by decide +kernel
theorem dX9_sends_105 : decode cX9_sends 105 = .ok (.getfield 369, 3) := by decide +kernel
theorem dX9_sends_108 : decode cX9_sends 108 = .ok (.iconst 1, 1) := by decide +kernel
theorem dX9_sends_109 : decode cX9_sends 109 = .ok (.iadd, 1) := by decide +kernel
theorem dX9_sends_110 : decode cX9_sends 110 = .ok (.putfield 369, 3) := by decide +kernel
theorem dX9_sends_113 : decode cX9_sends 113 = .ok (.aload_n 0, 1) := by decide +kernel
theorem dX9_sends_114 : decode cX9_sends 114 = .ok (.getfield 201, 3) := by decide +kernel
theorem dX9_sends_117 : decode cX9_sends 117 = .ok (.iload_n 1, 1) := by decide +kernel
theorem dX9_sends_118 : decode cX9_sends 118 = .ok (.aload_n 0, 1) := by decide +kernel
theorem dX9_sends_119 : decode cX9_sends 119 = .ok (.getfield 192, 3) := by decide +kernel
theorem dX9_sends_122 : decode cX9_sends 122 = .ok (.iload 5, 2) := by decide +kernel
theorem dX9_sends_124 : decode cX9_sends 124 = .ok (.iaload, 1) := by decide +kernel
theorem dX9_sends_125 : decode cX9_sends 125 = .ok (.iastore, 1) := by decide +kernel
theorem dX9_sends_126 : decode cX9_sends 126 = .ok (.iconst 0, 1) := by decide +kernel
theorem dX9_sends_127 : decode cX9_sends 127 = .ok (.istore 6, 2) := by decide +kernel
theorem dX9_sends_129 : decode cX9_sends 129 = .ok (.iload 6, 2) := by decide +kernel
theorem dX9_sends_131 : decode cX9_sends 131 = .ok (.aload_n 0, 1) := by decide +kernel
theorem dX9_sends_132 : decode cX9_sends 132 = .ok (.getfield 192, 3) := by decide +kernel
theorem dX9_sends_135 : decode cX9_sends 135 = .ok (.iload 5, 2) := by decide +kernel
theorem dX9_sends_137 : decode cX9_sends 137 = .ok (.iaload, 1) := by decide +kernel
theorem dX9_sends_138 : decode cX9_sends 138 = .ok (.if_icmp .ge 36, 3) := by decide +kernel
theorem dX9_sends_141 : decode cX9_sends 141 = .ok (.aload_n 0, 1) := by decide +kernel
theorem dX9_sends_142 : decode cX9_sends 142 = .ok (.getfield 204, 3) := by decide +kernel
theorem dX9_sends_145 : decode cX9_sends 145 = .ok (.sipush 250, 3) := by decide +kernel
theorem dX9_sends_148 : decode cX9_sends 148 = .ok (.iload_n 1, 1) := by decide +kernel
theorem dX9_sends_149 : decode cX9_sends 149 = .ok (.imul, 1) := by decide +kernel
theorem dX9_sends_150 : decode cX9_sends 150 = .ok (.iload 6, 2) := by decide +kernel
theorem dX9_sends_152 : decode cX9_sends 152 = .ok (.iadd, 1) := by decide +kernel
theorem dX9_sends_153 : decode cX9_sends 153 = .ok (.aload_n 0, 1) := by decide +kernel
theorem dX9_sends_154 : decode cX9_sends 154 = .ok (.getfield 195, 3) := by decide +kernel
theorem dX9_sends_157 : decode cX9_sends 157 = .ok (.sipush 250, 3) := by decide +kernel
theorem dX9_sends_160 : decode cX9_sends 160 = .ok (.iload 5, 2) := by decide +kernel
theorem dX9_sends_162 : decode cX9_sends 162 = .ok (.imul, 1) := by decide +kernel
theorem dX9_sends_163 : decode cX9_sends 163 = .ok (.iload 6, 2) := by decide +kernel
theorem dX9_sends_165 : decode cX9_sends 165 = .ok (.iadd, 1) := by decide +kernel
theorem dX9_sends_166 : decode cX9_sends 166 = .ok (.iaload, 1) := by decide +kernel
theorem dX9_sends_167 : decode cX9_sends 167 = .ok (.iastore, 1) := by decide +kernel
theorem dX9_sends_168 : decode cX9_sends 168 = .ok (.iinc 6 1, 3) := by decide +kernel
theorem dX9_sends_171 : decode cX9_sends 171 = .ok (.goto (-42), 3) := by decide +kernel
theorem dX9_sends_174 : decode cX9_sends 174 = .ok (.iload_n 3, 1) := by decide +kernel
theorem dX9_sends_175 : decode cX9_sends 175 = .ok (.ifCond .eq 13, 3) := by decide +kernel
theorem dX9_sends_178 : decode cX9_sends 178 = .ok (.aload_n 0, 1) := by decide +kernel
theorem dX9_sends_179 : decode cX9_sends 179 = .ok (.dup, 1) := by decide +kernel
theorem dX9_sends_180 : decode cX9_sends 180 = .ok (.getfield 372, 3) := by decide +kernel
theorem dX9_sends_183 : decode cX9_sends 183 = .ok (.iconst 1, 1) := by decide +kernel
theorem dX9_sends_184 : decode cX9_sends 184 = .ok (.iadd, 1) := by decide +kernel
theorem dX9_sends_185 : decode cX9_sends 185 = .ok (.putfield 372, 3) := by decide +kernel
theorem dX9_sends_188 : decode cX9_sends 188 = .ok (.iload 4, 2) := by decide +kernel
theorem dX9_sends_190 : decode cX9_sends 190 = .ok (.ifCond .eq 13, 3) := by decide +kernel
theorem dX9_sends_193 : decode cX9_sends 193 = .ok (.aload_n 0, 1) := by decide +kernel
theorem dX9_sends_194 : decode cX9_sends 194 = .ok (.dup, 1) := by decide +kernel
theorem dX9_sends_195 : decode cX9_sends 195 = .ok (.getfield 375, 3) := by decide +kernel
theorem dX9_sends_198 : decode cX9_sends 198 = .ok (.iconst 1, 1) := by decide +kernel
theorem dX9_sends_199 : decode cX9_sends 199 = .ok (.iadd, 1) := by decide +kernel
theorem dX9_sends_200 : decode cX9_sends 200 = .ok (.putfield 375, 3) := by decide +kernel
theorem dX9_sends_203 : decode cX9_sends 203 = .ok (.iload_n 3, 1) := by decide +kernel
theorem dX9_sends_204 : decode cX9_sends 204 = .ok (.ifCond .ne 17, 3) := by decide +kernel
theorem dX9_sends_207 : decode cX9_sends 207 = .ok (.aload_n 0, 1) := by decide +kernel
theorem dX9_sends_208 : decode cX9_sends 208 = .ok (.getfield 198, 3) := by decide +kernel
theorem dX9_sends_211 : decode cX9_sends 211 = .ok (.iload 5, 2) := by decide +kernel
theorem dX9_sends_213 : decode cX9_sends 213 = .ok (.baload, 1) := by decide +kernel
theorem dX9_sends_214 : decode cX9_sends 214 = .ok (.ifCond .ne 7, 3) := by decide +kernel
theorem dX9_sends_217 : decode cX9_sends 217 = .ok (.iconst 1, 1) := by decide +kernel
theorem dX9_sends_218 : decode cX9_sends 218 = .ok (.goto 4, 3) := by decide +kernel
theorem dX9_sends_221 : decode cX9_sends 221 = .ok (.iconst 0, 1) := by decide +kernel
theorem dX9_sends_222 : decode cX9_sends 222 = .ok (.istore 6, 2) := by decide +kernel
theorem dX9_sends_224 : decode cX9_sends 224 = .ok (.iload_n 3, 1) := by decide +kernel
theorem dX9_sends_225 : decode cX9_sends 225 = .ok (.ifCond .ne 11, 3) := by decide +kernel
theorem dX9_sends_228 : decode cX9_sends 228 = .ok (.aload_n 0, 1) := by decide +kernel
theorem dX9_sends_229 : decode cX9_sends 229 = .ok (.getfield 198, 3) := by decide +kernel
theorem dX9_sends_232 : decode cX9_sends 232 = .ok (.iload 5, 2) := by decide +kernel
theorem dX9_sends_234 : decode cX9_sends 234 = .ok (.iconst 1, 1) := by decide +kernel
theorem dX9_sends_235 : decode cX9_sends 235 = .ok (.bastore, 1) := by decide +kernel
theorem dX9_sends_236 : decode cX9_sends 236 = .ok (.iload 6, 2) := by decide +kernel
theorem dX9_sends_238 : decode cX9_sends 238 = .ok (.ifCond .eq 22, 3) := by decide +kernel
theorem dX9_sends_241 : decode cX9_sends 241 = .ok (.aload_n 0, 1) := by decide +kernel
theorem dX9_sends_242 : decode cX9_sends 242 = .ok (.iconst 1, 1) := by decide +kernel
theorem dX9_sends_243 : decode cX9_sends 243 = .ok (.iload_n 1, 1) := by decide +kernel
theorem dX9_sends_244 : decode cX9_sends 244 = .ok (.isub, 1) := by decide +kernel
theorem dX9_sends_245 : decode cX9_sends 245 = .ok (.sipush 250, 3) := by decide +kernel
theorem dX9_sends_248 : decode cX9_sends 248 = .ok (.iload_n 1, 1) := by decide +kernel
theorem dX9_sends_249 : decode cX9_sends 249 = .ok (.imul, 1) := by decide +kernel
theorem dX9_sends_250 : decode cX9_sends 250 = .ok (.aload_n 0, 1) := by decide +kernel
theorem dX9_sends_251 : decode cX9_sends 251 = .ok (.getfield 192, 3) := by decide +kernel
theorem dX9_sends_254 : decode cX9_sends 254 = .ok (.iload 5, 2) := by decide +kernel
theorem dX9_sends_256 : decode cX9_sends 256 = .ok (.iaload, 1) := by decide +kernel
theorem dX9_sends_257 : decode cX9_sends 257 = .ok (.invokevirtual 378, 3) := by decide +kernel
theorem dX9_sends_260 : decode cX9_sends 260 = .ok (.aload_n 0, 1) := by decide +kernel
theorem dX9_sends_261 : decode cX9_sends 261 = .ok (.getfield 198, 3) := by decide +kernel
theorem dX9_sends_264 : decode cX9_sends 264 = .ok (.iload 5, 2) := by decide +kernel
theorem dX9_sends_266 : decode cX9_sends 266 = .ok (.baload, 1) := by decide +kernel
theorem dX9_sends_267 : decode cX9_sends 267 = .ok (.iload 4, 2) := by decide +kernel
theorem dX9_sends_269 : decode cX9_sends 269 = .ok (.if_icmp .eq 7, 3) := by decide +kernel
theorem dX9_sends_272 : decode cX9_sends 272 = .ok (.iconst 1, 1) := by decide +kernel
theorem dX9_sends_273 : decode cX9_sends 273 = .ok (.goto 4, 3) := by decide +kernel
theorem dX9_sends_276 : decode cX9_sends 276 = .ok (.iconst 0, 1) := by decide +kernel
theorem dX9_sends_277 : decode cX9_sends 277 = .ok (.istore 7, 2) := by decide +kernel
theorem dX9_sends_279 : decode cX9_sends 279 = .ok (.iload 7, 2) := by decide +kernel
theorem dX9_sends_281 : decode cX9_sends 281 = .ok (.ifCond .ne 24, 3) := by decide +kernel
theorem dX9_sends_284 : decode cX9_sends 284 = .ok (.aload_n 0, 1) := by decide +kernel
theorem dX9_sends_285 : decode cX9_sends 285 = .ok (.getfield 189, 3) := by decide +kernel
theorem dX9_sends_288 : decode cX9_sends 288 = .ok (.iload 5, 2) := by decide +kernel
theorem dX9_sends_290 : decode cX9_sends 290 = .ok (.iaload, 1) := by decide +kernel
theorem dX9_sends_291 : decode cX9_sends 291 = .ok (.iconst 3, 1) := by decide +kernel
theorem dX9_sends_292 : decode cX9_sends 292 = .ok (.if_icmp .ne 13, 3) := by decide +kernel
theorem dX9_sends_295 : decode cX9_sends 295 = .ok (.aload_n 0, 1) := by decide +kernel
theorem dX9_sends_296 : decode cX9_sends 296 = .ok (.dup, 1) := by decide +kernel
theorem dX9_sends_297 : decode cX9_sends 297 = .ok (.getfield 381, 3) := by decide +kernel
theorem dX9_sends_300 : decode cX9_sends 300 = .ok (.iconst 1, 1) := by decide +kernel
theorem dX9_sends_301 : decode cX9_sends 301 = .ok (.iadd, 1) := by decide +kernel
theorem dX9_sends_302 : decode cX9_sends 302 = .ok (.putfield 381, 3) := by decide +kernel
theorem dX9_sends_305 : decode cX9_sends 305 = .ok (.iload 7, 2) := by decide +kernel
theorem dX9_sends_307 : decode cX9_sends 307 = .ok (.ifCond .ne 14, 3) := by decide +kernel
theorem dX9_sends_310 : decode cX9_sends 310 = .ok (.aload_n 0, 1) := by decide +kernel
theorem dX9_sends_311 : decode cX9_sends 311 = .ok (.getfield 189, 3) := by decide +kernel
theorem dX9_sends_314 : decode cX9_sends 314 = .ok (.iload 5, 2) := by decide +kernel
theorem dX9_sends_316 : decode cX9_sends 316 = .ok (.iaload, 1) := by decide +kernel
theorem dX9_sends_317 : decode cX9_sends 317 = .ok (.iconst 3, 1) := by decide +kernel
theorem dX9_sends_318 : decode cX9_sends 318 = .ok (.if_icmp .ne 11, 3) := by decide +kernel
theorem dX9_sends_321 : decode cX9_sends 321 = .ok (.aload_n 0, 1) := by decide +kernel
theorem dX9_sends_322 : decode cX9_sends 322 = .ok (.getfield 189, 3) := by decide +kernel
theorem dX9_sends_325 : decode cX9_sends 325 = .ok (.iload 5, 2) := by decide +kernel
theorem dX9_sends_327 : decode cX9_sends 327 = .ok (.iconst 0, 1) := by decide +kernel
theorem dX9_sends_328 : decode cX9_sends 328 = .ok (.iastore, 1) := by decide +kernel
theorem dX9_sends_329 : decode cX9_sends 329 = .ok (.iload 6, 2) := by decide +kernel
theorem dX9_sends_331 : decode cX9_sends 331 = .ok (.ifCond .eq 7, 3) := by decide +kernel
theorem dX9_sends_334 : decode cX9_sends 334 = .ok (.iconst 2, 1) := by decide +kernel
theorem dX9_sends_335 : decode cX9_sends 335 = .ok (.goto 4, 3) := by decide +kernel
theorem dX9_sends_338 : decode cX9_sends 338 = .ok (.iconst 1, 1) := by decide +kernel
theorem dX9_sends_339 : decode cX9_sends 339 = .ok (.ireturn, 1) := by decide +kernel
theorem dX9_work_0 : decode cX9_work 0 = .ok (.iload_n 2, 1) := by decide +kernel
theorem dX9_work_1 : decode cX9_work 1 = .ok (.istore 4, 2) := by decide +kernel
theorem dX9_work_3 : decode cX9_work 3 = .ok (.iload 4, 2) := by decide +kernel
theorem dX9_work_5 : decode cX9_work 5 = .ok (.iload_n 2, 1) := by decide +kernel
theorem dX9_work_6 : decode cX9_work 6 = .ok (.iload_n 3, 1) := by decide +kernel
theorem dX9_work_7 : decode cX9_work 7 = .ok (.iadd, 1) := by decide +kernel
theorem dX9_work_8 : decode cX9_work 8 = .ok (.if_icmp .ge 110, 3) := by decide +kernel
theorem dX9_work_11 : decode cX9_work 11 = .ok (.aload_n 0, 1) := by decide +kernel
theorem dX9_work_12 : decode cX9_work 12 = .ok (.getfield 204, 3) := by decide +kernel
theorem dX9_work_15 : decode cX9_work 15 = .ok (.iload 4, 2) := by decide +kernel
theorem dX9_work_17 : decode cX9_work 17 = .ok (.iaload, 1) := by decide +kernel
theorem dX9_work_18 : decode cX9_work 18 = .ok (.sipush 255, 3) := by decide +kernel
theorem dX9_work_21 : decode cX9_work 21 = .ok (.if_icmp .ge 97, 3) := by decide +kernel
theorem dX9_work_24 : decode cX9_work 24 = .ok (.aload_n 0, 1) := by decide +kernel
theorem dX9_work_25 : decode cX9_work 25 = .ok (.getfield 204, 3) := by decide +kernel
theorem dX9_work_28 : decode cX9_work 28 = .ok (.iload 4, 2) := by decide +kernel
theorem dX9_work_30 : decode cX9_work 30 = .ok (.iaload, 1) := by decide +kernel
theorem dX9_work_31 : decode cX9_work 31 = .ok (.istore 5, 2) := by decide +kernel
theorem dX9_work_33 : decode cX9_work 33 = .ok (.aload_n 0, 1) := by decide +kernel
theorem dX9_work_34 : decode cX9_work 34 = .ok (.getfield 204, 3) := by decide +kernel
theorem dX9_work_37 : decode cX9_work 37 = .ok (.iload 4, 2) := by decide +kernel
theorem dX9_work_39 : decode cX9_work 39 = .ok (.iconst 1, 1) := by decide +kernel
theorem dX9_work_40 : decode cX9_work 40 = .ok (.iadd, 1) := by decide +kernel
theorem dX9_work_41 : decode cX9_work 41 = .ok (.iaload, 1) := by decide +kernel
theorem dX9_work_42 : decode cX9_work 42 = .ok (.istore 6, 2) := by decide +kernel
theorem dX9_work_44 : decode cX9_work 44 = .ok (.aload_n 0, 1) := by decide +kernel
theorem dX9_work_45 : decode cX9_work 45 = .ok (.dup, 1) := by decide +kernel
theorem dX9_work_46 : decode cX9_work 46 = .ok (.getfield 384, 3) := by decide +kernel
theorem dX9_work_49 : decode cX9_work 49 = .ok (.iconst 1, 1) := by decide +kernel
theorem dX9_work_50 : decode cX9_work 50 = .ok (.iadd, 1) := by decide +kernel
theorem dX9_work_51 : decode cX9_work 51 = .ok (.putfield 384, 3) := by decide +kernel
theorem dX9_work_54 : decode cX9_work 54 = .ok (.aload_n 0, 1) := by decide +kernel
theorem dX9_work_55 : decode cX9_work 55 = .ok (.getfield 204, 3) := by decide +kernel
theorem dX9_work_58 : decode cX9_work 58 = .ok (.iload 4, 2) := by decide +kernel
theorem dX9_work_60 : decode cX9_work 60 = .ok (.iconst 2, 1) := by decide +kernel
theorem dX9_work_61 : decode cX9_work 61 = .ok (.iadd, 1) := by decide +kernel
theorem dX9_work_62 : decode cX9_work 62 = .ok (.iaload, 1) := by decide +kernel
theorem dX9_work_63 : decode cX9_work 63 = .ok (.bipush 127, 2) := by decide +kernel
theorem dX9_work_65 : decode cX9_work 65 = .ok (.if_icmp .le 23, 3) := by decide +kernel
theorem dX9_work_68 : decode cX9_work 68 = .ok (.aload_n 0, 1) := by decide +kernel
theorem dX9_work_69 : decode cX9_work 69 = .ok (.iload_n 1, 1) := by decide +kernel
theorem dX9_work_70 : decode cX9_work 70 = .ok (.iload 5, 2) := by decide +kernel
theorem dX9_work_72 : decode cX9_work 72 = .ok (.aload_n 0, 1) := by decide +kernel
theorem dX9_work_73 : decode cX9_work 73 = .ok (.getfield 204, 3) := by decide +kernel
theorem dX9_work_76 : decode cX9_work 76 = .ok (.iload 4, 2) := by decide +kernel
theorem dX9_work_78 : decode cX9_work 78 = .ok (.iconst 2, 1) := by decide +kernel
theorem dX9_work_79 : decode cX9_work 79 = .ok (.iadd, 1) := by decide +kernel
theorem dX9_work_80 : decode cX9_work 80 = .ok (.iload 6, 2) := by decide +kernel
theorem dX9_work_82 : decode cX9_work 82 = .ok (.invokevirtual 387, 3) := by decide +kernel
theorem dX9_work_85 : decode cX9_work 85 = .ok (.goto 21, 3) := by decide +kernel
theorem dX9_work_88 : decode cX9_work 88 = .ok (.aload_n 0, 1) := by decide +kernel
theorem dX9_work_89 : decode cX9_work 89 = .ok (.iload_n 1, 1) := by decide +kernel
theorem dX9_work_90 : decode cX9_work 90 = .ok (.iload 5, 2) := by decide +kernel
theorem dX9_work_92 : decode cX9_work 92 = .ok (.invokestatic 258, 3) := by decide +kernel
theorem dX9_work_95 : decode cX9_work 95 = .ok (.aload_n 0, 1) := by decide +kernel
theorem dX9_work_96 : decode cX9_work 96 = .ok (.getfield 204, 3) := by decide +kernel
theorem dX9_work_99 : decode cX9_work 99 = .ok (.iload 4, 2) := by decide +kernel
theorem dX9_work_101 : decode cX9_work 101 = .ok (.iconst 2, 1) := by decide +kernel
theorem dX9_work_102 : decode cX9_work 102 = .ok (.iadd, 1) := by decide +kernel
theorem dX9_work_103 : decode cX9_work 103 = .ok (.invokevirtual 391, 3) := by decide +kernel
theorem dX9_work_106 : decode cX9_work 106 = .ok (.iload 4, 2) := by decide +kernel
theorem dX9_work_108 : decode cX9_work 108 = .ok (.iconst 2, 1) := by decide +kernel
theorem dX9_work_109 : decode cX9_work 109 = .ok (.iload 6, 2) := by decide +kernel
theorem dX9_work_111 : decode cX9_work 111 = .ok (.iadd, 1) := by decide +kernel
theorem dX9_work_112 : decode cX9_work 112 = .ok (.iadd, 1) := by decide +kernel
theorem dX9_work_113 : decode cX9_work 113 = .ok (.istore 4, 2) := by decide +kernel
theorem dX9_work_115 : decode cX9_work 115 = .ok (.goto (-112), 3) := by decide +kernel
theorem dX9_work_118 : decode cX9_work 118 = .ok (.return_, 1) := by decide +kernel
theorem dX9_tick_0 : decode cX9_tick 0 = .ok (.iload_n 1, 1) := by decide +kernel
theorem dX9_tick_1 : decode cX9_tick 1 = .ok (.ifCond .lt 21, 3) := by decide +kernel
theorem dX9_tick_4 : decode cX9_tick 4 = .ok (.iload_n 1, 1) := by decide +kernel
theorem dX9_tick_5 : decode cX9_tick 5 = .ok (.sipush 250, 3) := by decide +kernel
theorem dX9_tick_8 : decode cX9_tick 8 = .ok (.if_icmp .gt 14, 3) := by decide +kernel
theorem dX9_tick_11 : decode cX9_tick 11 = .ok (.iload_n 2, 1) := by decide +kernel
theorem dX9_tick_12 : decode cX9_tick 12 = .ok (.ifCond .lt 10, 3) := by decide +kernel
theorem dX9_tick_15 : decode cX9_tick 15 = .ok (.iload_n 2, 1) := by decide +kernel
theorem dX9_tick_16 : decode cX9_tick 16 = .ok (.sipush 250, 3) := by decide +kernel
theorem dX9_tick_19 : decode cX9_tick 19 = .ok (.if_icmp .le 5, 3) := by decide +kernel
theorem dX9_tick_22 : decode cX9_tick 22 = .ok (.iconst (-1), 1) := by decide +kernel
theorem dX9_tick_23 : decode cX9_tick 23 = .ok (.ireturn, 1) := by decide +kernel
theorem dX9_tick_24 : decode cX9_tick 24 = .ok (.aload_n 0, 1) := by decide +kernel
theorem dX9_tick_25 : decode cX9_tick 25 = .ok (.dup, 1) := by decide +kernel
theorem dX9_tick_26 : decode cX9_tick 26 = .ok (.getfield 363, 3) := by decide +kernel
theorem dX9_tick_29 : decode cX9_tick 29 = .ok (.iconst 1, 1) := by decide +kernel
theorem dX9_tick_30 : decode cX9_tick 30 = .ok (.iadd, 1) := by decide +kernel
theorem dX9_tick_31 : decode cX9_tick 31 = .ok (.putfield 363, 3) := by decide +kernel
theorem dX9_tick_34 : decode cX9_tick 34 = .ok (.iconst 0, 1) := by decide +kernel
theorem dX9_tick_35 : decode cX9_tick 35 = .ok (.istore 4, 2) := by decide +kernel
theorem dX9_tick_37 : decode cX9_tick 37 = .ok (.iload 4, 2) := by decide +kernel
theorem dX9_tick_39 : decode cX9_tick 39 = .ok (.iconst 2, 1) := by decide +kernel
theorem dX9_tick_40 : decode cX9_tick 40 = .ok (.if_icmp .ge 38, 3) := by decide +kernel
theorem dX9_tick_43 : decode cX9_tick 43 = .ok (.iconst 0, 1) := by decide +kernel
theorem dX9_tick_44 : decode cX9_tick 44 = .ok (.istore 5, 2) := by decide +kernel
theorem dX9_tick_46 : decode cX9_tick 46 = .ok (.iload 5, 2) := by decide +kernel
theorem dX9_tick_48 : decode cX9_tick 48 = .ok (.aload_n 0, 1) := by decide +kernel
theorem dX9_tick_49 : decode cX9_tick 49 = .ok (.getfield 228, 3) := by decide +kernel
theorem dX9_tick_52 : decode cX9_tick 52 = .ok (.if_icmp .ge 20, 3) := by decide +kernel
theorem dX9_tick_55 : decode cX9_tick 55 = .ok (.aload_n 0, 1) := by decide +kernel
theorem dX9_tick_56 : decode cX9_tick 56 = .ok (.iload 4, 2) := by decide +kernel
theorem dX9_tick_58 : decode cX9_tick 58 = .ok (.iload 5, 2) := by decide +kernel
theorem dX9_tick_60 : decode cX9_tick 60 = .ok (.invokestatic 258, 3) := by decide +kernel
theorem dX9_tick_63 : decode cX9_tick 63 = .ok (.invokevirtual 395, 3) := by decide +kernel
theorem dX9_tick_66 : decode cX9_tick 66 = .ok (.iinc 5 1, 3) := by decide +kernel
theorem dX9_tick_69 : decode cX9_tick 69 = .ok (.goto (-23), 3) := by decide +kernel
theorem dX9_tick_72 : decode cX9_tick 72 = .ok (.iinc 4 1, 3) := by decide +kernel
theorem dX9_tick_75 : decode cX9_tick 75 = .ok (.goto (-38), 3) := by decide +kernel
theorem dX9_tick_78 : decode cX9_tick 78 = .ok (.iconst 0, 1) := by decide +kernel
theorem dX9_tick_79 : decode cX9_tick 79 = .ok (.istore 4, 2) := by decide +kernel
theorem dX9_tick_81 : decode cX9_tick 81 = .ok (.iload 4, 2) := by decide +kernel
theorem dX9_tick_83 : decode cX9_tick 83 = .ok (.iconst 2, 1) := by decide +kernel
theorem dX9_tick_84 : decode cX9_tick 84 = .ok (.if_icmp .ge 101, 3) := by decide +kernel
theorem dX9_tick_87 : decode cX9_tick 87 = .ok (.iconst 0, 1) := by decide +kernel
theorem dX9_tick_88 : decode cX9_tick 88 = .ok (.istore 5, 2) := by decide +kernel
theorem dX9_tick_90 : decode cX9_tick 90 = .ok (.iload 5, 2) := by decide +kernel
theorem dX9_tick_92 : decode cX9_tick 92 = .ok (.aload_n 0, 1) := by decide +kernel
theorem dX9_tick_93 : decode cX9_tick 93 = .ok (.getfield 228, 3) := by decide +kernel
theorem dX9_tick_96 : decode cX9_tick 96 = .ok (.if_icmp .ge 83, 3) := by decide +kernel
theorem dX9_tick_99 : decode cX9_tick 99 = .ok (.iload 4, 2) := by decide +kernel
theorem dX9_tick_101 : decode cX9_tick 101 = .ok (.iload 5, 2) := by decide +kernel
theorem dX9_tick_103 : decode cX9_tick 103 = .ok (.invokestatic 258, 3) := by decide +kernel
theorem dX9_tick_106 : decode cX9_tick 106 = .ok (.istore 6, 2) := by decide +kernel
theorem dX9_tick_108 : decode cX9_tick 108 = .ok (.aload_n 0, 1) := by decide +kernel
theorem dX9_tick_109 : decode cX9_tick 109 = .ok (.getfield 47, 3) := by decide +kernel
theorem dX9_tick_112 : decode cX9_tick 112 = .ok (.iload 6, 2) := by decide +kernel
theorem dX9_tick_114 : decode cX9_tick 114 = .ok (.baload, 1) := by decide +kernel
theorem dX9_tick_115 : decode cX9_tick 115 = .ok (.ifCond .ne 58, 3) := by decide +kernel
theorem dX9_tick_118 : decode cX9_tick 118 = .ok (.aload_n 0, 1) := by decide +kernel
theorem dX9_tick_119 : decode cX9_tick 119 = .ok (.getfield 22, 3) := by decide +kernel
theorem dX9_tick_122 : decode cX9_tick 122 = .ok (.iload 6, 2) := by decide +kernel
theorem dX9_tick_124 : decode cX9_tick 124 = .ok (.iaload, 1) := by decide +kernel
theorem dX9_tick_125 : decode cX9_tick 125 = .ok (.ifCond .ne 48, 3) := by decide +kernel
theorem dX9_tick_128 : decode cX9_tick 128 = .ok (.aload_n 0, 1) := by decide +kernel
theorem dX9_tick_129 : decode cX9_tick 129 = .ok (.getfield 16, 3) := by decide +kernel
theorem dX9_tick_132 : decode cX9_tick 132 = .ok (.iload 6, 2) := by decide +kernel
theorem dX9_tick_134 : decode cX9_tick 134 = .ok (.iaload, 1) := by decide +kernel
theorem dX9_tick_135 : decode cX9_tick 135 = .ok (.aload_n 0, 1) := by decide +kernel
theorem dX9_tick_136 : decode cX9_tick 136 = .ok (.getfield 19, 3) := by decide +kernel
theorem dX9_tick_139 : decode cX9_tick 139 = .ok (.iload 6, 2) := by decide +kernel
theorem dX9_tick_141 : decode cX9_tick 141 = .ok (.iaload, 1) := by decide +kernel
theorem dX9_tick_142 : decode cX9_tick 142 = .ok (.if_icmp .ge 31, 3) := by decide +kernel
theorem dX9_tick_145 : decode cX9_tick 145 = .ok (.aload_n 0, 1) := by decide +kernel
theorem dX9_tick_146 : decode cX9_tick 146 = .ok (.getfield 74, 3) := by decide +kernel
theorem dX9_tick_149 : decode cX9_tick 149 = .ok (.iload 6, 2) := by decide +kernel
theorem dX9_tick_151 : decode cX9_tick 151 = .ok (.iaload, 1) := by decide +kernel
theorem dX9_tick_152 : decode cX9_tick 152 = .ok (.ifCond .ne 21, 3) := by decide +kernel
theorem dX9_tick_155 : decode cX9_tick 155 = .ok (.aload_n 0, 1) := by decide +kernel
theorem dX9_tick_156 : decode cX9_tick 156 = .ok (.iload 6, 2) := by decide +kernel
theorem dX9_tick_158 : decode cX9_tick 158 = .ok (.invokevirtual 289, 3) := by decide +kernel
theorem dX9_tick_161 : decode cX9_tick 161 = .ok (.ifCond .ne 12, 3) := by decide +kernel
theorem dX9_tick_164 : decode cX9_tick 164 = .ok (.aload_n 0, 1) := by decide +kernel
theorem dX9_tick_165 : decode cX9_tick 165 = .ok (.getfield 22, 3) := by decide +kernel
theorem dX9_tick_168 : decode cX9_tick 168 = .ok (.iload 6, 2) := by decide +kernel
theorem dX9_tick_170 : decode cX9_tick 170 = .ok (.bipush 10, 2) := by decide +kernel
theorem dX9_tick_172 : decode cX9_tick 172 = .ok (.iastore, 1) := by decide +kernel
theorem dX9_tick_173 : decode cX9_tick 173 = .ok (.iinc 5 1, 3) := by decide +kernel
theorem dX9_tick_176 : decode cX9_tick 176 = .ok (.goto (-86), 3) := by decide +kernel
theorem dX9_tick_179 : decode cX9_tick 179 = .ok (.iinc 4 1, 3) := by decide +kernel
theorem dX9_tick_182 : decode cX9_tick 182 = .ok (.goto (-101), 3) := by decide +kernel
theorem dX9_tick_185 : decode cX9_tick 185 = .ok (.iconst 0, 1) := by decide +kernel
theorem dX9_tick_186 : decode cX9_tick 186 = .ok (.istore 4, 2) := by decide +kernel
theorem dX9_tick_188 : decode cX9_tick 188 = .ok (.iload 4, 2) := by decide +kernel
theorem dX9_tick_190 : decode cX9_tick 190 = .ok (.iconst 2, 1) := by decide +kernel
theorem dX9_tick_191 : decode cX9_tick 191 = .ok (.if_icmp .ge 106, 3) := by decide +kernel
theorem dX9_tick_194 : decode cX9_tick 194 = .ok (.iconst 0, 1) := by decide +kernel
theorem dX9_tick_195 : decode cX9_tick 195 = .ok (.istore 5, 2) := by decide +kernel
theorem dX9_tick_197 : decode cX9_tick 197 = .ok (.iload 5, 2) := by decide +kernel
theorem dX9_tick_199 : decode cX9_tick 199 = .ok (.aload_n 0, 1) := by decide +kernel
theorem dX9_tick_200 : decode cX9_tick 200 = .ok (.getfield 228, 3) := by decide +kernel
theorem dX9_tick_203 : decode cX9_tick 203 = .ok (.if_icmp .ge 88, 3) := by decide +kernel
theorem dX9_tick_206 : decode cX9_tick 206 = .ok (.iload 4, 2) := by decide +kernel
theorem dX9_tick_208 : decode cX9_tick 208 = .ok (.iload 5, 2) := by decide +kernel
theorem dX9_tick_210 : decode cX9_tick 210 = .ok (.invokestatic 258, 3) := by decide +kernel
theorem dX9_tick_213 : decode cX9_tick 213 = .ok (.istore 6, 2) := by decide +kernel
theorem dX9_tick_215 : decode cX9_tick 215 = .ok (.iconst 5, 1) := by decide +kernel
theorem dX9_tick_216 : decode cX9_tick 216 = .ok (.aload_n 0, 1) := by decide +kernel
theorem dX9_tick_217 : decode cX9_tick 217 = .ok (.getfield 50, 3) := by decide +kernel
theorem dX9_tick_220 : decode cX9_tick 220 = .ok (.iload 5, 2) := by decide +kernel
theorem dX9_tick_222 : decode cX9_tick 222 = .ok (.iaload, 1) := by decide +kernel
theorem dX9_tick_223 : decode cX9_tick 223 = .ok (.imul, 1) := by decide +kernel
theorem dX9_tick_224 : decode cX9_tick 224 = .ok (.istore 7, 2) := by decide +kernel
theorem dX9_tick_226 : decode cX9_tick 226 = .ok (.aload_n 0, 1) := by decide +kernel
theorem dX9_tick_227 : decode cX9_tick 227 = .ok (.getfield 31, 3) := by decide +kernel
theorem dX9_tick_230 : decode cX9_tick 230 = .ok (.iload 6, 2) := by decide +kernel
theorem dX9_tick_232 : decode cX9_tick 232 = .ok (.iaload, 1) := by decide +kernel
theorem dX9_tick_233 : decode cX9_tick 233 = .ok (.iload 7, 2) := by decide +kernel
theorem dX9_tick_235 : decode cX9_tick 235 = .ok (.if_icmp .ge 50, 3) := by decide +kernel
theorem dX9_tick_238 : decode cX9_tick 238 = .ok (.aload_n 0, 1) := by decide +kernel
theorem dX9_tick_239 : decode cX9_tick 239 = .ok (.getfield 31, 3) := by decide +kernel
theorem dX9_tick_242 : decode cX9_tick 242 = .ok (.iload 6, 2) := by decide +kernel
theorem dX9_tick_244 : decode cX9_tick 244 = .ok (.aload_n 0, 1) := by decide +kernel
theorem dX9_tick_245 : decode cX9_tick 245 = .ok (.getfield 31, 3) := by decide +kernel
theorem dX9_tick_248 : decode cX9_tick 248 = .ok (.iload 6, 2) := by decide +kernel
theorem dX9_tick_250 : decode cX9_tick 250 = .ok (.iaload, 1) := by decide +kernel
theorem dX9_tick_251 : decode cX9_tick 251 = .ok (.aload_n 0, 1) := by decide +kernel
theorem dX9_tick_252 : decode cX9_tick 252 = .ok (.getfield 50, 3) := by decide +kernel
theorem dX9_tick_255 : decode cX9_tick 255 = .ok (.iload 5, 2) := by decide +kernel
theorem dX9_tick_257 : decode cX9_tick 257 = .ok (.iaload, 1) := by decide +kernel
theorem dX9_tick_258 : decode cX9_tick 258 = .ok (.iadd, 1) := by decide +kernel
theorem dX9_tick_259 : decode cX9_tick 259 = .ok (.iload 7, 2) := by decide +kernel
theorem dX9_tick_261 : decode cX9_tick 261 = .ok (.if_icmp .ge 21, 3) := by decide +kernel
theorem dX9_tick_264 : decode cX9_tick 264 = .ok (.aload_n 0, 1) := by decide +kernel
theorem dX9_tick_265 : decode cX9_tick 265 = .ok (.getfield 31, 3) := by decide +kernel
theorem dX9_tick_268 : decode cX9_tick 268 = .ok (.iload 6, 2) := by decide +kernel
theorem dX9_tick_270 : decode cX9_tick 270 = .ok (.iaload, 1) := by decide +kernel
theorem dX9_tick_271 : decode cX9_tick 271 = .ok (.aload_n 0, 1) := by decide +kernel
theorem dX9_tick_272 : decode cX9_tick 272 = .ok (.getfield 50, 3) := by decide +kernel
theorem dX9_tick_275 : decode cX9_tick 275 = .ok (.iload 5, 2) := by decide +kernel
theorem dX9_tick_277 : decode cX9_tick 277 = .ok (.iaload, 1) := by decide +kernel
theorem dX9_tick_278 : decode cX9_tick 278 = .ok (.iadd, 1) := by decide +kernel
theorem dX9_tick_279 : decode cX9_tick 279 = .ok (.goto 5, 3) := by decide +kernel
theorem dX9_tick_282 : decode cX9_tick 282 = .ok (.iload 7, 2) := by decide +kernel
theorem dX9_tick_284 : decode cX9_tick 284 = .ok (.iastore, 1) := by decide +kernel
theorem dX9_tick_285 : decode cX9_tick 285 = .ok (.iinc 5 1, 3) := by decide +kernel
theorem dX9_tick_288 : decode cX9_tick 288 = .ok (.goto (-91), 3) := by decide +kernel
theorem dX9_tick_291 : decode cX9_tick 291 = .ok (.iinc 4 1, 3) := by decide +kernel
theorem dX9_tick_294 : decode cX9_tick 294 = .ok (.goto (-106), 3) := by decide +kernel
theorem dX9_tick_297 : decode cX9_tick 297 = .ok (.aload_n 0, 1) := by decide +kernel
theorem dX9_tick_298 : decode cX9_tick 298 = .ok (.iconst 0, 1) := by decide +kernel
theorem dX9_tick_299 : decode cX9_tick 299 = .ok (.iload_n 1, 1) := by decide +kernel
theorem dX9_tick_300 : decode cX9_tick 300 = .ok (.iload_n 3, 1) := by decide +kernel
theorem dX9_tick_301 : decode cX9_tick 301 = .ok (.iconst 1, 1) := by decide +kernel
theorem dX9_tick_302 : decode cX9_tick 302 = .ok (.iand, 1) := by decide +kernel
theorem dX9_tick_303 : decode cX9_tick 303 = .ok (.ifCond .eq 7, 3) := by decide +kernel
theorem dX9_tick_306 : decode cX9_tick 306 = .ok (.iconst 1, 1) := by decide +kernel
theorem dX9_tick_307 : decode cX9_tick 307 = .ok (.goto 4, 3) := by decide +kernel
theorem dX9_tick_310 : decode cX9_tick 310 = .ok (.iconst 0, 1) := by decide +kernel
theorem dX9_tick_311 : decode cX9_tick 311 = .ok (.iload_n 3, 1) := by decide +kernel
theorem dX9_tick_312 : decode cX9_tick 312 = .ok (.iconst 4, 1) := by decide +kernel
theorem dX9_tick_313 : decode cX9_tick 313 = .ok (.iand, 1) := by decide +kernel
theorem dX9_tick_314 : decode cX9_tick 314 = .ok (.ifCond .eq 7, 3) := by decide +kernel
theorem dX9_tick_317 : decode cX9_tick 317 = .ok (.iconst 1, 1) := by decide +kernel
theorem dX9_tick_318 : decode cX9_tick 318 = .ok (.goto 4, 3) := by decide +kernel
theorem dX9_tick_321 : decode cX9_tick 321 = .ok (.iconst 0, 1) := by decide +kernel
theorem dX9_tick_322 : decode cX9_tick 322 = .ok (.invokevirtual 398, 3) := by decide +kernel
theorem dX9_tick_325 : decode cX9_tick 325 = .ok (.istore 4, 2) := by decide +kernel
theorem dX9_tick_327 : decode cX9_tick 327 = .ok (.aload_n 0, 1) := by decide +kernel
theorem dX9_tick_328 : decode cX9_tick 328 = .ok (.iconst 1, 1) := by decide +kernel
theorem dX9_tick_329 : decode cX9_tick 329 = .ok (.iload_n 2, 1) := by decide +kernel
theorem dX9_tick_330 : decode cX9_tick 330 = .ok (.iload_n 3, 1) := by decide +kernel
theorem dX9_tick_331 : decode cX9_tick 331 = .ok (.iconst 2, 1) := by decide +kernel
theorem dX9_tick_332 : decode cX9_tick 332 = .ok (.iand, 1) := by decide +kernel
theorem dX9_tick_333 : decode cX9_tick 333 = .ok (.ifCond .eq 7, 3) := by decide +kernel
theorem dX9_tick_336 : decode cX9_tick 336 = .ok (.iconst 1, 1) := by decide +kernel
theorem dX9_tick_337 : decode cX9_tick 337 = .ok (.goto 4, 3) := by decide +kernel
theorem dX9_tick_340 : decode cX9_tick 340 = .ok (.iconst 0, 1) := by decide +kernel
theorem dX9_tick_341 : decode cX9_tick 341 = .ok (.iload_n 3, 1) := by decide +kernel
theorem dX9_tick_342 : decode cX9_tick 342 = .ok (.bipush 8, 2) := by decide +kernel
theorem dX9_tick_344 : decode cX9_tick 344 = .ok (.iand, 1) := by decide +kernel
theorem dX9_tick_345 : decode cX9_tick 345 = .ok (.ifCond .eq 7, 3) := by decide +kernel
theorem dX9_tick_348 : decode cX9_tick 348 = .ok (.iconst 1, 1) := by decide +kernel
theorem dX9_tick_349 : decode cX9_tick 349 = .ok (.goto 4, 3) := by decide +kernel
theorem dX9_tick_352 : decode cX9_tick 352 = .ok (.iconst 0, 1) := by decide +kernel
theorem dX9_tick_353 : decode cX9_tick 353 = .ok (.invokevirtual 398, 3) := by decide +kernel
theorem dX9_tick_356 : decode cX9_tick 356 = .ok (.istore 5, 2) := by decide +kernel
theorem dX9_tick_358 : decode cX9_tick 358 = .ok (.iload 4, 2) := by decide +kernel
theorem dX9_tick_360 : decode cX9_tick 360 = .ok (.ifCond .le 7, 3) := by decide +kernel
theorem dX9_tick_363 : decode cX9_tick 363 = .ok (.iconst 1, 1) := by decide +kernel
theorem dX9_tick_364 : decode cX9_tick 364 = .ok (.goto 4, 3) := by decide +kernel
theorem dX9_tick_367 : decode cX9_tick 367 = .ok (.iconst 0, 1) := by decide +kernel
theorem dX9_tick_368 : decode cX9_tick 368 = .ok (.iload 5, 2) := by decide +kernel
theorem dX9_tick_370 : decode cX9_tick 370 = .ok (.ifCond .le 7, 3) := by decide +kernel
theorem dX9_tick_373 : decode cX9_tick 373 = .ok (.iconst 2, 1) := by decide +kernel
theorem dX9_tick_374 : decode cX9_tick 374 = .ok (.goto 4, 3) := by decide +kernel
theorem dX9_tick_377 : decode cX9_tick 377 = .ok (.iconst 0, 1) := by decide +kernel
theorem dX9_tick_378 : decode cX9_tick 378 = .ok (.iadd, 1) := by decide +kernel
theorem dX9_tick_379 : decode cX9_tick 379 = .ok (.iload 4, 2) := by decide +kernel
theorem dX9_tick_381 : decode cX9_tick 381 = .ok (.iconst 2, 1) := by decide +kernel
theorem dX9_tick_382 : decode cX9_tick 382 = .ok (.if_icmp .ne 7, 3) := by decide +kernel
theorem dX9_tick_385 : decode cX9_tick 385 = .ok (.iconst 4, 1) := by decide +kernel
theorem dX9_tick_386 : decode cX9_tick 386 = .ok (.goto 4, 3) := by decide +kernel
theorem dX9_tick_389 : decode cX9_tick 389 = .ok (.iconst 0, 1) := by decide +kernel
theorem dX9_tick_390 : decode cX9_tick 390 = .ok (.iadd, 1) := by decide +kernel
theorem dX9_tick_391 : decode cX9_tick 391 = .ok (.iload 5, 2) := by decide +kernel
theorem dX9_tick_393 : decode cX9_tick 393 = .ok (.iconst 2, 1) := by decide +kernel
theorem dX9_tick_394 : decode cX9_tick 394 = .ok (.if_icmp .ne 8, 3) := by decide +kernel
theorem dX9_tick_397 : decode cX9_tick 397 = .ok (.bipush 8, 2) := by decide +kernel
theorem dX9_tick_399 : decode cX9_tick 399 = .ok (.goto 4, 3) := by decide +kernel
theorem dX9_tick_402 : decode cX9_tick 402 = .ok (.iconst 0, 1) := by decide +kernel
theorem dX9_tick_403 : decode cX9_tick 403 = .ok (.iadd, 1) := by decide +kernel
theorem dX9_tick_404 : decode cX9_tick 404 = .ok (.ireturn, 1) := by decide +kernel
theorem dX9_renew_0 : decode cX9_renew 0 = .ok (.iconst 0, 1) := by decide +kernel
theorem dX9_renew_1 : decode cX9_renew 1 = .ok (.istore_n 1, 1) := by decide +kernel
theorem dX9_renew_2 : decode cX9_renew 2 = .ok (.iload_n 1, 1) := by decide +kernel
theorem dX9_renew_3 : decode cX9_renew 3 = .ok (.iconst 2, 1) := by decide +kernel
theorem dX9_renew_4 : decode cX9_renew 4 = .ok (.if_icmp .ge 31, 3) := by decide +kernel
theorem dX9_renew_7 : decode cX9_renew 7 = .ok (.iconst 0, 1) := by decide +kernel
theorem dX9_renew_8 : decode cX9_renew 8 = .ok (.istore_n 2, 1) := by decide +kernel
theorem dX9_renew_9 : decode cX9_renew 9 = .ok (.iload_n 2, 1) := by decide +kernel
theorem dX9_renew_10 : decode cX9_renew 10 = .ok (.aload_n 0, 1) := by decide +kernel
theorem dX9_renew_11 : decode cX9_renew 11 = .ok (.getfield 228, 3) := by decide +kernel
theorem dX9_renew_14 : decode cX9_renew 14 = .ok (.if_icmp .ge 15, 3) := by decide +kernel
theorem dX9_renew_17 : decode cX9_renew 17 = .ok (.aload_n 0, 1) := by decide +kernel
theorem dX9_renew_18 : decode cX9_renew 18 = .ok (.iload_n 1, 1) := by decide +kernel
theorem dX9_renew_19 : decode cX9_renew 19 = .ok (.iload_n 2, 1) := by decide +kernel
theorem dX9_renew_20 : decode cX9_renew 20 = .ok (.invokevirtual 402, 3) := by decide +kernel
theorem dX9_renew_23 : decode cX9_renew 23 = .ok (.iinc 2 1, 3) := by decide +kernel
theorem dX9_renew_26 : decode cX9_renew 26 = .ok (.goto (-17), 3) := by decide +kernel
theorem dX9_renew_29 : decode cX9_renew 29 = .ok (.iinc 1 1, 3) := by decide +kernel
theorem dX9_renew_32 : decode cX9_renew 32 = .ok (.goto (-30), 3) := by decide +kernel
theorem dX9_renew_35 : decode cX9_renew 35 = .ok (.iconst 0, 1) := by decide +kernel
theorem dX9_renew_36 : decode cX9_renew 36 = .ok (.istore_n 1, 1) := by decide +kernel
theorem dX9_renew_37 : decode cX9_renew 37 = .ok (.iload_n 1, 1) := by decide +kernel
theorem dX9_renew_38 : decode cX9_renew 38 = .ok (.bipush 6, 2) := by decide +kernel
theorem dX9_renew_40 : decode cX9_renew 40 = .ok (.if_icmp .ge 65, 3) := by decide +kernel
theorem dX9_renew_43 : decode cX9_renew 43 = .ok (.aload_n 0, 1) := by decide +kernel
theorem dX9_renew_44 : decode cX9_renew 44 = .ok (.getfield 16, 3) := by decide +kernel
theorem dX9_renew_47 : decode cX9_renew 47 = .ok (.iload_n 1, 1) := by decide +kernel
theorem dX9_renew_48 : decode cX9_renew 48 = .ok (.iconst 0, 1) := by decide +kernel
theorem dX9_renew_49 : decode cX9_renew 49 = .ok (.iastore, 1) := by decide +kernel
theorem dX9_renew_50 : decode cX9_renew 50 = .ok (.aload_n 0, 1) := by decide +kernel
theorem dX9_renew_51 : decode cX9_renew 51 = .ok (.getfield 19, 3) := by decide +kernel
theorem dX9_renew_54 : decode cX9_renew 54 = .ok (.iload_n 1, 1) := by decide +kernel
theorem dX9_renew_55 : decode cX9_renew 55 = .ok (.iconst 0, 1) := by decide +kernel
theorem dX9_renew_56 : decode cX9_renew 56 = .ok (.iastore, 1) := by decide +kernel
theorem dX9_renew_57 : decode cX9_renew 57 = .ok (.aload_n 0, 1) := by decide +kernel
theorem dX9_renew_58 : decode cX9_renew 58 = .ok (.getfield 43, 3) := by decide +kernel
theorem dX9_renew_61 : decode cX9_renew 61 = .ok (.iload_n 1, 1) := by decide +kernel
theorem dX9_renew_62 : decode cX9_renew 62 = .ok (.iconst 0, 1) := by decide +kernel
theorem dX9_renew_63 : decode cX9_renew 63 = .ok (.bastore, 1) := by decide +kernel
theorem dX9_renew_64 : decode cX9_renew 64 = .ok (.aload_n 0, 1) := by decide +kernel
theorem dX9_renew_65 : decode cX9_renew 65 = .ok (.getfield 47, 3) := by decide +kernel
theorem dX9_renew_68 : decode cX9_renew 68 = .ok (.iload_n 1, 1) := by decide +kernel
theorem dX9_renew_69 : decode cX9_renew 69 = .ok (.iconst 0, 1) := by decide +kernel
theorem dX9_renew_70 : decode cX9_renew 70 = .ok (.bastore, 1) := by decide +kernel
theorem dX9_renew_71 : decode cX9_renew 71 = .ok (.aload_n 0, 1) := by decide +kernel
theorem dX9_renew_72 : decode cX9_renew 72 = .ok (.getfield 22, 3) := by decide +kernel
theorem dX9_renew_75 : decode cX9_renew 75 = .ok (.iload_n 1, 1) := by decide +kernel
theorem dX9_renew_76 : decode cX9_renew 76 = .ok (.iconst 0, 1) := by decide +kernel
theorem dX9_renew_77 : decode cX9_renew 77 = .ok (.iastore, 1) := by decide +kernel
theorem dX9_renew_78 : decode cX9_renew 78 = .ok (.aload_n 0, 1) := by decide +kernel
theorem dX9_renew_79 : decode cX9_renew 79 = .ok (.getfield 28, 3) := by decide +kernel
theorem dX9_renew_82 : decode cX9_renew 82 = .ok (.iload_n 1, 1) := by decide +kernel
theorem dX9_renew_83 : decode cX9_renew 83 = .ok (.iconst 0, 1) := by decide +kernel
theorem dX9_renew_84 : decode cX9_renew 84 = .ok (.iastore, 1) := by decide +kernel
theorem dX9_renew_85 : decode cX9_renew 85 = .ok (.aload_n 0, 1) := by decide +kernel
theorem dX9_renew_86 : decode cX9_renew 86 = .ok (.getfield 25, 3) := by decide +kernel
theorem dX9_renew_89 : decode cX9_renew 89 = .ok (.iload_n 1, 1) := by decide +kernel
theorem dX9_renew_90 : decode cX9_renew 90 = .ok (.iconst (-1), 1) := by decide +kernel
theorem dX9_renew_91 : decode cX9_renew 91 = .ok (.iastore, 1) := by decide +kernel
theorem dX9_renew_92 : decode cX9_renew 92 = .ok (.aload_n 0, 1) := by decide +kernel
theorem dX9_renew_93 : decode cX9_renew 93 = .ok (.getfield 74, 3) := by decide +kernel
theorem dX9_renew_96 : decode cX9_renew 96 = .ok (.iload_n 1, 1) := by decide +kernel
theorem dX9_renew_97 : decode cX9_renew 97 = .ok (.iconst 0, 1) := by decide +kernel
theorem dX9_renew_98 : decode cX9_renew 98 = .ok (.iastore, 1) := by decide +kernel
theorem dX9_renew_99 : decode cX9_renew 99 = .ok (.iinc 1 1, 3) := by decide +kernel
theorem dX9_renew_102 : decode cX9_renew 102 = .ok (.goto (-65), 3) := by decide +kernel
theorem dX9_renew_105 : decode cX9_renew 105 = .ok (.iconst 0, 1) := by decide +kernel
theorem dX9_renew_106 : decode cX9_renew 106 = .ok (.istore_n 1, 1) := by decide +kernel
theorem dX9_renew_107 : decode cX9_renew 107 = .ok (.iload_n 1, 1) := by decide +kernel
theorem dX9_renew_108 : decode cX9_renew 108 = .ok (.bipush 8, 2) := by decide +kernel
theorem dX9_renew_110 : decode cX9_renew 110 = .ok (.if_icmp .ge 16, 3) := by decide +kernel
theorem dX9_renew_113 : decode cX9_renew 113 = .ok (.aload_n 0, 1) := by decide +kernel
theorem dX9_renew_114 : decode cX9_renew 114 = .ok (.getfield 189, 3) := by decide +kernel
theorem dX9_renew_117 : decode cX9_renew 117 = .ok (.iload_n 1, 1) := by decide +kernel
theorem dX9_renew_118 : decode cX9_renew 118 = .ok (.iconst 0, 1) := by decide +kernel
theorem dX9_renew_119 : decode cX9_renew 119 = .ok (.iastore, 1) := by decide +kernel
theorem dX9_renew_120 : decode cX9_renew 120 = .ok (.iinc 1 1, 3) := by decide +kernel
theorem dX9_renew_123 : decode cX9_renew 123 = .ok (.goto (-16), 3) := by decide +kernel
theorem dX9_renew_126 : decode cX9_renew 126 = .ok (.aload_n 0, 1) := by decide +kernel
theorem dX9_renew_127 : decode cX9_renew 127 = .ok (.dup, 1) := by decide +kernel
theorem dX9_renew_128 : decode cX9_renew 128 = .ok (.getfield 246, 3) := by decide +kernel
theorem dX9_renew_131 : decode cX9_renew 131 = .ok (.iconst 1, 1) := by decide +kernel
theorem dX9_renew_132 : decode cX9_renew 132 = .ok (.iadd, 1) := by decide +kernel
theorem dX9_renew_133 : decode cX9_renew 133 = .ok (.putfield 246, 3) := by decide +kernel
theorem dX9_renew_136 : decode cX9_renew 136 = .ok (.iconst 0, 1) := by decide +kernel
theorem dX9_renew_137 : decode cX9_renew 137 = .ok (.istore_n 1, 1) := by decide +kernel
theorem dX9_renew_138 : decode cX9_renew 138 = .ok (.iload_n 1, 1) := by decide +kernel
theorem dX9_renew_139 : decode cX9_renew 139 = .ok (.iconst 2, 1) := by decide +kernel
theorem dX9_renew_140 : decode cX9_renew 140 = .ok (.if_icmp .ge 86, 3) := by decide +kernel
theorem dX9_renew_143 : decode cX9_renew 143 = .ok (.iconst 0, 1) := by decide +kernel
theorem dX9_renew_144 : decode cX9_renew 144 = .ok (.istore_n 2, 1) := by decide +kernel
theorem dX9_renew_145 : decode cX9_renew 145 = .ok (.iload_n 2, 1) := by decide +kernel
theorem dX9_renew_146 : decode cX9_renew 146 = .ok (.aload_n 0, 1) := by decide +kernel
theorem dX9_renew_147 : decode cX9_renew 147 = .ok (.getfield 228, 3) := by decide +kernel
theorem dX9_renew_150 : decode cX9_renew 150 = .ok (.if_icmp .ge 70, 3) := by decide +kernel
theorem dX9_renew_153 : decode cX9_renew 153 = .ok (.iload_n 1, 1) := by decide +kernel
theorem dX9_renew_154 : decode cX9_renew 154 = .ok (.iload_n 2, 1) := by decide +kernel
theorem dX9_renew_155 : decode cX9_renew 155 = .ok (.invokestatic 258, 3) := by decide +kernel
theorem dX9_renew_158 : decode cX9_renew 158 = .ok (.istore_n 3, 1) := by decide +kernel
theorem dX9_renew_159 : decode cX9_renew 159 = .ok (.aload_n 0, 1) := by decide +kernel
theorem dX9_renew_160 : decode cX9_renew 160 = .ok (.iload_n 3, 1) := by decide +kernel
theorem dX9_renew_161 : decode cX9_renew 161 = .ok (.invokevirtual 405, 3) := by decide +kernel
theorem dX9_renew_164 : decode cX9_renew 164 = .ok (.aload_n 0, 1) := by decide +kernel
theorem dX9_renew_165 : decode cX9_renew 165 = .ok (.iload_n 3, 1) := by decide +kernel
theorem dX9_renew_166 : decode cX9_renew 166 = .ok (.invokevirtual 273, 3) := by decide +kernel
theorem dX9_renew_169 : decode cX9_renew 169 = .ok (.istore 4, 2) := by decide +kernel
theorem dX9_renew_171 : decode cX9_renew 171 = .ok (.iload 4, 2) := by decide +kernel
theorem dX9_renew_173 : decode cX9_renew 173 = .ok (.aload_n 0, 1) := by decide +kernel
theorem dX9_renew_174 : decode cX9_renew 174 = .ok (.getfield 13, 3) := by decide +kernel
theorem dX9_renew_177 : decode cX9_renew 177 = .ok (.iload_n 3, 1) := by decide +kernel
theorem dX9_renew_178 : decode cX9_renew 178 = .ok (.iaload, 1) := by decide +kernel
theorem dX9_renew_179 : decode cX9_renew 179 = .ok (.if_icmp .ge 35, 3) := by decide +kernel
theorem dX9_renew_182 : decode cX9_renew 182 = .ok (.aload_n 0, 1) := by decide +kernel
theorem dX9_renew_183 : decode cX9_renew 183 = .ok (.getfield 53, 3) := by decide +kernel
theorem dX9_renew_186 : decode cX9_renew 186 = .ok (.bipush 32, 2) := by decide +kernel
theorem dX9_renew_188 : decode cX9_renew 188 = .ok (.iload_n 3, 1) := by decide +kernel
theorem dX9_renew_189 : decode cX9_renew 189 = .ok (.imul, 1) := by decide +kernel
theorem dX9_renew_190 : decode cX9_renew 190 = .ok (.iload 4, 2) := by decide +kernel
theorem dX9_renew_192 : decode cX9_renew 192 = .ok (.bipush 31, 2) := by decide +kernel
theorem dX9_renew_194 : decode cX9_renew 194 = .ok (.iand, 1) := by decide +kernel
theorem dX9_renew_195 : decode cX9_renew 195 = .ok (.iadd, 1) := by decide +kernel
theorem dX9_renew_196 : decode cX9_renew 196 = .ok (.baload, 1) := by decide +kernel
theorem dX9_renew_197 : decode cX9_renew 197 = .ok (.ifCond .eq 11, 3) := by decide +kernel
theorem dX9_renew_200 : decode cX9_renew 200 = .ok (.aload_n 0, 1) := by decide +kernel
theorem dX9_renew_201 : decode cX9_renew 201 = .ok (.iload_n 1, 1) := by decide +kernel
theorem dX9_renew_202 : decode cX9_renew 202 = .ok (.iload_n 2, 1) := by decide +kernel
theorem dX9_renew_203 : decode cX9_renew 203 = .ok (.iload 4, 2) := by decide +kernel
theorem dX9_renew_205 : decode cX9_renew 205 = .ok (.invokevirtual 276, 3) := by decide +kernel
theorem dX9_renew_208 : decode cX9_renew 208 = .ok (.iinc 4 1, 3) := by decide +kernel
theorem dX9_renew_211 : decode cX9_renew 211 = .ok (.goto (-40), 3) := by decide +kernel
theorem dX9_renew_214 : decode cX9_renew 214 = .ok (.iinc 2 1, 3) := by decide +kernel
theorem dX9_renew_217 : decode cX9_renew 217 = .ok (.goto (-72), 3) := by decide +kernel
theorem dX9_renew_220 : decode cX9_renew 220 = .ok (.iinc 1 1, 3) := by decide +kernel
theorem dX9_renew_223 : decode cX9_renew 223 = .ok (.goto (-85), 3) := by decide +kernel
theorem dX9_renew_226 : decode cX9_renew 226 = .ok (.aload_n 0, 1) := by decide +kernel
theorem dX9_renew_227 : decode cX9_renew 227 = .ok (.getfield 246, 3) := by decide +kernel
theorem dX9_renew_230 : decode cX9_renew 230 = .ok (.ireturn, 1) := by decide +kernel
theorem dX9_renewReceiver_0 : decode cX9_renewReceiver 0 = .ok (.iload_n 1, 1) := by decide +kernel
theorem dX9_renewReceiver_1 : decode cX9_renewReceiver 1 = .ok (.iload_n 2, 1) := by decide +kernel
theorem dX9_renewReceiver_2 : decode cX9_renewReceiver 2 = .ok (.invokestatic 258, 3) := by decide +kernel
theorem dX9_renewReceiver_5 : decode cX9_renewReceiver 5 = .ok (.istore_n 3, 1) := by decide +kernel
theorem dX9_renewReceiver_6 : decode cX9_renewReceiver 6 = .ok (.aload_n 0, 1) := by decide +kernel
theorem dX9_renewReceiver_7 : decode cX9_renewReceiver 7 = .ok (.getfield 107, 3) := by decide +kernel
theorem dX9_renewReceiver_10 : decode cX9_renewReceiver 10 = .ok (.iload_n 3, 1) := by decide +kernel
theorem dX9_renewReceiver_11 : decode cX9_renewReceiver 11 = .ok (.iaload, 1) := by decide +kernel
theorem dX9_renewReceiver_12 : decode cX9_renewReceiver 12 = .ok (.istore 4, 2) := by decide +kernel
