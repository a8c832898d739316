theorem dX7_bringAgain_13 : decode cX7_bringAgain 13 = .ok (.iadd, 1) := by decide +kernel
theorem dX7_bringAgain_14 : decode cX7_bringAgain 14 = .ok (.putfield 79, 3) := by decide +kernel
theorem dX7_bringAgain_17 : decode cX7_bringAgain 17 = .ok (.aload_n 0, 1) := by decide +kernel
theorem dX7_bringAgain_18 : decode cX7_bringAgain 18 = .ok (.aload_n 0, 1) := by decide +kernel
theorem dX7_bringAgain_19 : decode cX7_bringAgain 19 = .ok (.getfield 47, 3) := by decide +kernel
theorem dX7_bringAgain_22 : decode cX7_bringAgain 22 = .ok (.ifCond .ne 11, 3) := by decide +kernel
theorem dX7_bringAgain_25 : decode cX7_bringAgain 25 = .ok (.aload_n 1, 1) := by decide +kernel
theorem dX7_bringAgain_26 : decode cX7_bringAgain 26 = .ok (.getfield 79, 3) := by decide +kernel
theorem dX7_bringAgain_29 : decode cX7_bringAgain 29 = .ok (.iconst 5, 1) := by decide +kernel
theorem dX7_bringAgain_30 : decode cX7_bringAgain 30 = .ok (.if_icmp .lt 7, 3) := by decide +kernel
theorem dX7_bringAgain_33 : decode cX7_bringAgain 33 = .ok (.iconst 1, 1) := by decide +kernel
theorem dX7_bringAgain_34 : decode cX7_bringAgain 34 = .ok (.goto 4, 3) := by decide +kernel
theorem dX7_bringAgain_37 : decode cX7_bringAgain 37 = .ok (.iconst 0, 1) := by decide +kernel
theorem dX7_bringAgain_38 : decode cX7_bringAgain 38 = .ok (.putfield 47, 3) := by decide +kernel
theorem dX7_bringAgain_41 : decode cX7_bringAgain 41 = .ok (.aload_n 1, 1) := by decide +kernel
theorem dX7_bringAgain_42 : decode cX7_bringAgain 42 = .ok (.getfield 76, 3) := by decide +kernel
theorem dX7_bringAgain_45 : decode cX7_bringAgain 45 = .ok (.istore 4, 2) := by decide +kernel
theorem dX7_bringAgain_47 : decode cX7_bringAgain 47 = .ok (.iload_n 2, 1) := by decide +kernel
theorem dX7_bringAgain_48 : decode cX7_bringAgain 48 = .ok (.istore 5, 2) := by decide +kernel
theorem dX7_bringAgain_50 : decode cX7_bringAgain 50 = .ok (.iload 5, 2) := by decide +kernel
theorem dX7_bringAgain_52 : decode cX7_bringAgain 52 = .ok (.iload_n 3, 1) := by decide +kernel
theorem dX7_bringAgain_53 : decode cX7_bringAgain 53 = .ok (.if_icmp .ge 24, 3) := by decide +kernel
theorem dX7_bringAgain_56 : decode cX7_bringAgain 56 = .ok (.iload 5, 2) := by decide +kernel
theorem dX7_bringAgain_58 : decode cX7_bringAgain 58 = .ok (.aload_n 1, 1) := by decide +kernel
theorem dX7_bringAgain_59 : decode cX7_bringAgain 59 = .ok (.getfield 82, 3) := by decide +kernel
theorem dX7_bringAgain_62 : decode cX7_bringAgain 62 = .ok (.if_icmp .ge 15, 3) := by decide +kernel
theorem dX7_bringAgain_65 : decode cX7_bringAgain 65 = .ok (.aload_n 1, 1) := by decide +kernel
theorem dX7_bringAgain_66 : decode cX7_bringAgain 66 = .ok (.iload 5, 2) := by decide +kernel
theorem dX7_bringAgain_68 : decode cX7_bringAgain 68 = .ok (.invokevirtual 85, 3) := by decide +kernel
theorem dX7_bringAgain_71 : decode cX7_bringAgain 71 = .ok (.iinc 5 1, 3) := by decide +kernel
theorem dX7_bringAgain_74 : decode cX7_bringAgain 74 = .ok (.goto (-24), 3) := by decide +kernel
theorem dX7_bringAgain_77 : decode cX7_bringAgain 77 = .ok (.aload_n 0, 1) := by decide +kernel
theorem dX7_bringAgain_78 : decode cX7_bringAgain 78 = .ok (.dup, 1) := by decide +kernel
theorem dX7_bringAgain_79 : decode cX7_bringAgain 79 = .ok (.getfield 40, 3) := by decide +kernel
theorem dX7_bringAgain_82 : decode cX7_bringAgain 82 = .ok (.aload_n 1, 1) := by decide +kernel
theorem dX7_bringAgain_83 : decode cX7_bringAgain 83 = .ok (.getfield 76, 3) := by decide +kernel
theorem dX7_bringAgain_86 : decode cX7_bringAgain 86 = .ok (.iload 4, 2) := by decide +kernel
theorem dX7_bringAgain_88 : decode cX7_bringAgain 88 = .ok (.isub, 1) := by decide +kernel
theorem dX7_bringAgain_89 : decode cX7_bringAgain 89 = .ok (.iadd, 1) := by decide +kernel
theorem dX7_bringAgain_90 : decode cX7_bringAgain 90 = .ok (.putfield 40, 3) := by decide +kernel
theorem dX7_bringAgain_93 : decode cX7_bringAgain 93 = .ok (.return_, 1) := by decide +kernel
theorem dX7_makeAgain_0 : decode cX7_makeAgain 0 = .ok (.aload_n 0, 1) := by decide +kernel
theorem dX7_makeAgain_1 : decode cX7_makeAgain 1 = .ok (.getfield 34, 3) := by decide +kernel
theorem dX7_makeAgain_4 : decode cX7_makeAgain 4 = .ok (.istore_n 3, 1) := by decide +kernel
theorem dX7_makeAgain_5 : decode cX7_makeAgain 5 = .ok (.iconst 0, 1) := by decide +kernel
theorem dX7_makeAgain_6 : decode cX7_makeAgain 6 = .ok (.istore 4, 2) := by decide +kernel
theorem dX7_makeAgain_8 : decode cX7_makeAgain 8 = .ok (.iload 4, 2) := by decide +kernel
theorem dX7_makeAgain_10 : decode cX7_makeAgain 10 = .ok (.bipush 16, 2) := by decide +kernel
theorem dX7_makeAgain_12 : decode cX7_makeAgain 12 = .ok (.if_icmp .ge 23, 3) := by decide +kernel
theorem dX7_makeAgain_15 : decode cX7_makeAgain 15 = .ok (.aload_n 0, 1) := by decide +kernel
theorem dX7_makeAgain_16 : decode cX7_makeAgain 16 = .ok (.iload_n 3, 1) := by decide +kernel
theorem dX7_makeAgain_17 : decode cX7_makeAgain 17 = .ok (.invokevirtual 59, 3) := by decide +kernel
theorem dX7_makeAgain_20 : decode cX7_makeAgain 20 = .ok (.getfield 76, 3) := by decide +kernel
theorem dX7_makeAgain_23 : decode cX7_makeAgain 23 = .ok (.ifCond .ne 12, 3) := by decide +kernel
theorem dX7_makeAgain_26 : decode cX7_makeAgain 26 = .ok (.iinc 3 1, 3) := by decide +kernel
theorem dX7_makeAgain_29 : decode cX7_makeAgain 29 = .ok (.iinc 4 1, 3) := by decide +kernel
theorem dX7_makeAgain_32 : decode cX7_makeAgain 32 = .ok (.goto (-24), 3) := by decide +kernel
theorem dX7_makeAgain_35 : decode cX7_makeAgain 35 = .ok (.aload_n 0, 1) := by decide +kernel
theorem dX7_makeAgain_36 : decode cX7_makeAgain 36 = .ok (.iload_n 3, 1) := by decide +kernel
theorem dX7_makeAgain_37 : decode cX7_makeAgain 37 = .ok (.invokevirtual 59, 3) := by decide +kernel
theorem dX7_makeAgain_40 : decode cX7_makeAgain 40 = .ok (.astore 4, 2) := by decide +kernel
theorem dX7_makeAgain_42 : decode cX7_makeAgain 42 = .ok (.aload 4, 2) := by decide +kernel
theorem dX7_makeAgain_44 : decode cX7_makeAgain 44 = .ok (.iconst 0, 1) := by decide +kernel
theorem dX7_makeAgain_45 : decode cX7_makeAgain 45 = .ok (.aload 4, 2) := by decide +kernel
theorem dX7_makeAgain_47 : decode cX7_makeAgain 47 = .ok (.getfield 82, 3) := by decide +kernel
theorem dX7_makeAgain_50 : decode cX7_makeAgain 50 = .ok (.iconst 1, 1) := by decide +kernel
theorem dX7_makeAgain_51 : decode cX7_makeAgain 51 = .ok (.invokevirtual 88, 3) := by decide +kernel
theorem dX7_makeAgain_54 : decode cX7_makeAgain 54 = .ok (.istore 5, 2) := by decide +kernel
theorem dX7_makeAgain_56 : decode cX7_makeAgain 56 = .ok (.aload 4, 2) := by decide +kernel
theorem dX7_makeAgain_58 : decode cX7_makeAgain 58 = .ok (.iload 5, 2) := by decide +kernel
theorem dX7_makeAgain_60 : decode cX7_makeAgain 60 = .ok (.aload 4, 2) := by decide +kernel
theorem dX7_makeAgain_62 : decode cX7_makeAgain 62 = .ok (.getfield 82, 3) := by decide +kernel
theorem dX7_makeAgain_65 : decode cX7_makeAgain 65 = .ok (.iconst 0, 1) := by decide +kernel
theorem dX7_makeAgain_66 : decode cX7_makeAgain 66 = .ok (.invokevirtual 88, 3) := by decide +kernel
theorem dX7_makeAgain_69 : decode cX7_makeAgain 69 = .ok (.istore 6, 2) := by decide +kernel
theorem dX7_makeAgain_71 : decode cX7_makeAgain 71 = .ok (.iload 5, 2) := by decide +kernel
theorem dX7_makeAgain_73 : decode cX7_makeAgain 73 = .ok (.ifCond .ne 17, 3) := by decide +kernel
theorem dX7_makeAgain_76 : decode cX7_makeAgain 76 = .ok (.iload 6, 2) := by decide +kernel
theorem dX7_makeAgain_78 : decode cX7_makeAgain 78 = .ok (.aload 4, 2) := by decide +kernel
theorem dX7_makeAgain_80 : decode cX7_makeAgain 80 = .ok (.getfield 82, 3) := by decide +kernel
theorem dX7_makeAgain_83 : decode cX7_makeAgain 83 = .ok (.if_icmp .ne 7, 3) := by decide +kernel
theorem dX7_makeAgain_86 : decode cX7_makeAgain 86 = .ok (.iconst 1, 1) := by decide +kernel
theorem dX7_makeAgain_87 : decode cX7_makeAgain 87 = .ok (.goto 4, 3) := by decide +kernel
theorem dX7_makeAgain_90 : decode cX7_makeAgain 90 = .ok (.iconst 0, 1) := by decide +kernel
theorem dX7_makeAgain_91 : decode cX7_makeAgain 91 = .ok (.istore 7, 2) := by decide +kernel
theorem dX7_makeAgain_93 : decode cX7_makeAgain 93 = .ok (.iload 7, 2) := by decide +kernel
theorem dX7_makeAgain_95 : decode cX7_makeAgain 95 = .ok (.ifCond .eq 20, 3) := by decide +kernel
theorem dX7_makeAgain_98 : decode cX7_makeAgain 98 = .ok (.iconst 2, 1) := by decide +kernel
theorem dX7_makeAgain_99 : decode cX7_makeAgain 99 = .ok (.aload 4, 2) := by decide +kernel
theorem dX7_makeAgain_101 : decode cX7_makeAgain 101 = .ok (.iconst 0, 1) := by decide +kernel
theorem dX7_makeAgain_102 : decode cX7_makeAgain 102 = .ok (.iload 6, 2) := by decide +kernel
theorem dX7_makeAgain_104 : decode cX7_makeAgain 104 = .ok (.invokevirtual 92, 3) := by decide +kernel
theorem dX7_makeAgain_107 : decode cX7_makeAgain 107 = .ok (.iadd, 1) := by decide +kernel
theorem dX7_makeAgain_108 : decode cX7_makeAgain 108 = .ok (.iload 6, 2) := by decide +kernel
theorem dX7_makeAgain_110 : decode cX7_makeAgain 110 = .ok (.iadd, 1) := by decide +kernel
theorem dX7_makeAgain_111 : decode cX7_makeAgain 111 = .ok (.iload_n 2, 1) := by decide +kernel
theorem dX7_makeAgain_112 : decode cX7_makeAgain 112 = .ok (.if_icmp .le 23, 3) := by decide +kernel
theorem dX7_makeAgain_115 : decode cX7_makeAgain 115 = .ok (.iload_n 2, 1) := by decide +kernel
theorem dX7_makeAgain_116 : decode cX7_makeAgain 116 = .ok (.iconst 4, 1) := by decide +kernel
theorem dX7_makeAgain_117 : decode cX7_makeAgain 117 = .ok (.if_icmp .ge 4, 3) := by decide +kernel
theorem dX7_makeAgain_120 : decode cX7_makeAgain 120 = .ok (.return_, 1) := by decide +kernel
theorem dX7_makeAgain_121 : decode cX7_makeAgain 121 = .ok (.aload 4, 2) := by decide +kernel
theorem dX7_makeAgain_123 : decode cX7_makeAgain 123 = .ok (.iload 5, 2) := by decide +kernel
theorem dX7_makeAgain_125 : decode cX7_makeAgain 125 = .ok (.iload 6, 2) := by decide +kernel
theorem dX7_makeAgain_127 : decode cX7_makeAgain 127 = .ok (.iload_n 2, 1) := by decide +kernel
theorem dX7_makeAgain_128 : decode cX7_makeAgain 128 = .ok (.iconst 3, 1) := by decide +kernel
theorem dX7_makeAgain_129 : decode cX7_makeAgain 129 = .ok (.isub, 1) := by decide +kernel
theorem dX7_makeAgain_130 : decode cX7_makeAgain 130 = .ok (.invokevirtual 95, 3) := by decide +kernel
theorem dX7_makeAgain_133 : decode cX7_makeAgain 133 = .ok (.istore 6, 2) := by decide +kernel
theorem dX7_makeAgain_135 : decode cX7_makeAgain 135 = .ok (.iload 5, 2) := by decide +kernel
theorem dX7_makeAgain_137 : decode cX7_makeAgain 137 = .ok (.istore 8, 2) := by decide +kernel
theorem dX7_makeAgain_139 : decode cX7_makeAgain 139 = .ok (.iload 8, 2) := by decide +kernel
theorem dX7_makeAgain_141 : decode cX7_makeAgain 141 = .ok (.iload 6, 2) := by decide +kernel
theorem dX7_makeAgain_143 : decode cX7_makeAgain 143 = .ok (.if_icmp .ge 16, 3) := by decide +kernel
theorem dX7_makeAgain_146 : decode cX7_makeAgain 146 = .ok (.aload 4, 2) := by decide +kernel
theorem dX7_makeAgain_148 : decode cX7_makeAgain 148 = .ok (.iload 8, 2) := by decide +kernel
theorem dX7_makeAgain_150 : decode cX7_makeAgain 150 = .ok (.invokevirtual 99, 3) := by decide +kernel
theorem dX7_makeAgain_153 : decode cX7_makeAgain 153 = .ok (.iinc 8 1, 3) := by decide +kernel
theorem dX7_makeAgain_156 : decode cX7_makeAgain 156 = .ok (.goto (-17), 3) := by decide +kernel
theorem dX7_makeAgain_159 : decode cX7_makeAgain 159 = .ok (.aload_n 0, 1) := by decide +kernel
theorem dX7_makeAgain_160 : decode cX7_makeAgain 160 = .ok (.dup, 1) := by decide +kernel
theorem dX7_makeAgain_161 : decode cX7_makeAgain 161 = .ok (.getfield 40, 3) := by decide +kernel
theorem dX7_makeAgain_164 : decode cX7_makeAgain 164 = .ok (.iload 6, 2) := by decide +kernel
theorem dX7_makeAgain_166 : decode cX7_makeAgain 166 = .ok (.iload 5, 2) := by decide +kernel
theorem dX7_makeAgain_168 : decode cX7_makeAgain 168 = .ok (.isub, 1) := by decide +kernel
theorem dX7_makeAgain_169 : decode cX7_makeAgain 169 = .ok (.isub, 1) := by decide +kernel
theorem dX7_makeAgain_170 : decode cX7_makeAgain 170 = .ok (.putfield 40, 3) := by decide +kernel
theorem dX7_makeAgain_173 : decode cX7_makeAgain 173 = .ok (.aload_n 0, 1) := by decide +kernel
theorem dX7_makeAgain_174 : decode cX7_makeAgain 174 = .ok (.dup, 1) := by decide +kernel
theorem dX7_makeAgain_175 : decode cX7_makeAgain 175 = .ok (.getfield 102, 3) := by decide +kernel
theorem dX7_makeAgain_178 : decode cX7_makeAgain 178 = .ok (.iconst 1, 1) := by decide +kernel
theorem dX7_makeAgain_179 : decode cX7_makeAgain 179 = .ok (.iadd, 1) := by decide +kernel
theorem dX7_makeAgain_180 : decode cX7_makeAgain 180 = .ok (.putfield 102, 3) := by decide +kernel
theorem dX7_makeAgain_183 : decode cX7_makeAgain 183 = .ok (.aload 4, 2) := by decide +kernel
theorem dX7_makeAgain_185 : decode cX7_makeAgain 185 = .ok (.aload_n 1, 1) := by decide +kernel
theorem dX7_makeAgain_186 : decode cX7_makeAgain 186 = .ok (.iload_n 3, 1) := by decide +kernel
theorem dX7_makeAgain_187 : decode cX7_makeAgain 187 = .ok (.iload 5, 2) := by decide +kernel
theorem dX7_makeAgain_189 : decode cX7_makeAgain 189 = .ok (.iload 6, 2) := by decide +kernel
theorem dX7_makeAgain_191 : decode cX7_makeAgain 191 = .ok (.aload_n 0, 1) := by decide +kernel
theorem dX7_makeAgain_192 : decode cX7_makeAgain 192 = .ok (.invokevirtual 105, 3) := by decide +kernel
theorem dX7_makeAgain_195 : decode cX7_makeAgain 195 = .ok (.invokevirtual 109, 3) := by decide +kernel
theorem dX7_makeAgain_198 : decode cX7_makeAgain 198 = .ok (.return_, 1) := by decide +kernel
theorem dX7_makeNew_0 : decode cX7_makeNew 0 = .ok (.aload_n 0, 1) := by decide +kernel
theorem dX7_makeNew_1 : decode cX7_makeNew 1 = .ok (.getfield 29, 3) := by decide +kernel
theorem dX7_makeNew_4 : decode cX7_makeNew 4 = .ok (.getfield 56, 3) := by decide +kernel
theorem dX7_makeNew_7 : decode cX7_makeNew 7 = .ok (.ifCond .eq 22, 3) := by decide +kernel
theorem dX7_makeNew_10 : decode cX7_makeNew 10 = .ok (.aload_n 0, 1) := by decide +kernel
theorem dX7_makeNew_11 : decode cX7_makeNew 11 = .ok (.getfield 37, 3) := by decide +kernel
theorem dX7_makeNew_14 : decode cX7_makeNew 14 = .ok (.aload_n 0, 1) := by decide +kernel
theorem dX7_makeNew_15 : decode cX7_makeNew 15 = .ok (.getfield 34, 3) := by decide +kernel
theorem dX7_makeNew_18 : decode cX7_makeNew 18 = .ok (.isub, 1) := by decide +kernel
theorem dX7_makeNew_19 : decode cX7_makeNew 19 = .ok (.bipush 16, 2) := by decide +kernel
theorem dX7_makeNew_21 : decode cX7_makeNew 21 = .ok (.if_icmp .ge 8, 3) := by decide +kernel
theorem dX7_makeNew_24 : decode cX7_makeNew 24 = .ok (.iload_n 2, 1) := by decide +kernel
theorem dX7_makeNew_25 : decode cX7_makeNew 25 = .ok (.iconst 3, 1) := by decide +kernel
theorem dX7_makeNew_26 : decode cX7_makeNew 26 = .ok (.if_icmp .ge 4, 3) := by decide +kernel
theorem dX7_makeNew_29 : decode cX7_makeNew 29 = .ok (.return_, 1) := by decide +kernel
theorem dX7_makeNew_30 : decode cX7_makeNew 30 = .ok (.aload_n 0, 1) := by decide +kernel
theorem dX7_makeNew_31 : decode cX7_makeNew 31 = .ok (.aload_n 0, 1) := by decide +kernel
theorem dX7_makeNew_32 : decode cX7_makeNew 32 = .ok (.getfield 37, 3) := by decide +kernel
theorem dX7_makeNew_35 : decode cX7_makeNew 35 = .ok (.invokevirtual 59, 3) := by decide +kernel
theorem dX7_makeNew_38 : decode cX7_makeNew 38 = .ok (.astore 4, 2) := by decide +kernel
theorem dX7_makeNew_40 : decode cX7_makeNew 40 = .ok (.aload 4, 2) := by decide +kernel
theorem dX7_makeNew_42 : decode cX7_makeNew 42 = .ok (.iconst 0, 1) := by decide +kernel
theorem dX7_makeNew_43 : decode cX7_makeNew 43 = .ok (.invokevirtual 113, 3) := by decide +kernel
theorem dX7_makeNew_46 : decode cX7_makeNew 46 = .ok (.iload_n 2, 1) := by decide +kernel
theorem dX7_makeNew_47 : decode cX7_makeNew 47 = .ok (.iconst 2, 1) := by decide +kernel
theorem dX7_makeNew_48 : decode cX7_makeNew 48 = .ok (.isub, 1) := by decide +kernel
theorem dX7_makeNew_49 : decode cX7_makeNew 49 = .ok (.istore 5, 2) := by decide +kernel
theorem dX7_makeNew_51 : decode cX7_makeNew 51 = .ok (.iconst 0, 1) := by decide +kernel
theorem dX7_makeNew_52 : decode cX7_makeNew 52 = .ok (.istore 6, 2) := by decide +kernel
theorem dX7_makeNew_54 : decode cX7_makeNew 54 = .ok (.iload 6, 2) := by decide +kernel
theorem dX7_makeNew_56 : decode cX7_makeNew 56 = .ok (.sipush 240, 3) := by decide +kernel
theorem dX7_makeNew_59 : decode cX7_makeNew 59 = .ok (.if_icmp .ge 82, 3) := by decide +kernel
theorem dX7_makeNew_62 : decode cX7_makeNew 62 = .ok (.aload_n 0, 1) := by decide +kernel
theorem dX7_makeNew_63 : decode cX7_makeNew 63 = .ok (.getfield 29, 3) := by decide +kernel
theorem dX7_makeNew_66 : decode cX7_makeNew 66 = .ok (.getfield 56, 3) := by decide +kernel
theorem dX7_makeNew_69 : decode cX7_makeNew 69 = .ok (.ifCond .le 72, 3) := by decide +kernel
theorem dX7_makeNew_72 : decode cX7_makeNew 72 = .ok (.iload 5, 2) := by decide +kernel
theorem dX7_makeNew_74 : decode cX7_makeNew 74 = .ok (.aload 4, 2) := by decide +kernel
theorem dX7_makeNew_76 : decode cX7_makeNew 76 = .ok (.iload 6, 2) := by decide +kernel
theorem dX7_makeNew_78 : decode cX7_makeNew 78 = .ok (.iconst 1, 1) := by decide +kernel
theorem dX7_makeNew_79 : decode cX7_makeNew 79 = .ok (.isub, 1) := by decide +kernel
theorem dX7_makeNew_80 : decode cX7_makeNew 80 = .ok (.sipush 512, 3) := by decide +kernel
theorem dX7_makeNew_83 : decode cX7_makeNew 83 = .ok (.invokevirtual 116, 3) := by decide +kernel
theorem dX7_makeNew_86 : decode cX7_makeNew 86 = .ok (.ifCond .eq 7, 3) := by decide +kernel
theorem dX7_makeNew_89 : decode cX7_makeNew 89 = .ok (.iconst 2, 1) := by decide +kernel
theorem dX7_makeNew_90 : decode cX7_makeNew 90 = .ok (.goto 4, 3) := by decide +kernel
theorem dX7_makeNew_93 : decode cX7_makeNew 93 = .ok (.iconst 1, 1) := by decide +kernel
theorem dX7_makeNew_94 : decode cX7_makeNew 94 = .ok (.isub, 1) := by decide +kernel
theorem dX7_makeNew_95 : decode cX7_makeNew 95 = .ok (.istore 5, 2) := by decide +kernel
theorem dX7_makeNew_97 : decode cX7_makeNew 97 = .ok (.iload 5, 2) := by decide +kernel
theorem dX7_makeNew_99 : decode cX7_makeNew 99 = .ok (.ifCond .ge 6, 3) := by decide +kernel
theorem dX7_makeNew_102 : decode cX7_makeNew 102 = .ok (.goto 39, 3) := by decide +kernel
theorem dX7_makeNew_105 : decode cX7_makeNew 105 = .ok (.aload_n 0, 1) := by decide +kernel
theorem dX7_makeNew_106 : decode cX7_makeNew 106 = .ok (.getfield 29, 3) := by decide +kernel
theorem dX7_makeNew_109 : decode cX7_makeNew 109 = .ok (.getfield 120, 3) := by decide +kernel
theorem dX7_makeNew_112 : decode cX7_makeNew 112 = .ok (.ifCond .ne 11, 3) := by decide +kernel
theorem dX7_makeNew_115 : decode cX7_makeNew 115 = .ok (.aload_n 0, 1) := by decide +kernel
theorem dX7_makeNew_116 : decode cX7_makeNew 116 = .ok (.getfield 29, 3) := by decide +kernel
theorem dX7_makeNew_119 : decode cX7_makeNew 119 = .ok (.aload_n 3, 1) := by decide +kernel
theorem dX7_makeNew_120 : decode cX7_makeNew 120 = .ok (.invokevirtual 123, 3) := by decide +kernel
theorem dX7_makeNew_123 : decode cX7_makeNew 123 = .ok (.aload 4, 2) := by decide +kernel
theorem dX7_makeNew_125 : decode cX7_makeNew 125 = .ok (.aload_n 0, 1) := by decide +kernel
theorem dX7_makeNew_126 : decode cX7_makeNew 126 = .ok (.getfield 29, 3) := by decide +kernel
theorem dX7_makeNew_129 : decode cX7_makeNew 129 = .ok (.invokevirtual 127, 3) := by decide +kernel
theorem dX7_makeNew_132 : decode cX7_makeNew 132 = .ok (.invokevirtual 131, 3) := by decide +kernel
theorem dX7_makeNew_135 : decode cX7_makeNew 135 = .ok (.iinc 6 1, 3) := by decide +kernel
theorem dX7_makeNew_138 : decode cX7_makeNew 138 = .ok (.goto (-84), 3) := by decide +kernel
theorem dX7_makeNew_141 : decode cX7_makeNew 141 = .ok (.aload_n 0, 1) := by decide +kernel
theorem dX7_makeNew_142 : decode cX7_makeNew 142 = .ok (.dup, 1) := by decide +kernel
theorem dX7_makeNew_143 : decode cX7_makeNew 143 = .ok (.getfield 37, 3) := by decide +kernel
theorem dX7_makeNew_146 : decode cX7_makeNew 146 = .ok (.iconst 1, 1) := by decide +kernel
theorem dX7_makeNew_147 : decode cX7_makeNew 147 = .ok (.iadd, 1) := by decide +kernel
theorem dX7_makeNew_148 : decode cX7_makeNew 148 = .ok (.putfield 37, 3) := by decide +kernel
theorem dX7_makeNew_151 : decode cX7_makeNew 151 = .ok (.aload 4, 2) := by decide +kernel
theorem dX7_makeNew_153 : decode cX7_makeNew 153 = .ok (.aload_n 1, 1) := by decide +kernel
theorem dX7_makeNew_154 : decode cX7_makeNew 154 = .ok (.aload_n 0, 1) := by decide +kernel
theorem dX7_makeNew_155 : decode cX7_makeNew 155 = .ok (.getfield 37, 3) := by decide +kernel
theorem dX7_makeNew_158 : decode cX7_makeNew 158 = .ok (.iconst 1, 1) := by decide +kernel
theorem dX7_makeNew_159 : decode cX7_makeNew 159 = .ok (.isub, 1) := by decide +kernel
theorem dX7_makeNew_160 : decode cX7_makeNew 160 = .ok (.iconst 0, 1) := by decide +kernel
theorem dX7_makeNew_161 : decode cX7_makeNew 161 = .ok (.aload 4, 2) := by decide +kernel
theorem dX7_makeNew_163 : decode cX7_makeNew 163 = .ok (.getfield 82, 3) := by decide +kernel
theorem dX7_makeNew_166 : decode cX7_makeNew 166 = .ok (.aload_n 0, 1) := by decide +kernel
theorem dX7_makeNew_167 : decode cX7_makeNew 167 = .ok (.invokevirtual 105, 3) := by decide +kernel
theorem dX7_makeNew_170 : decode cX7_makeNew 170 = .ok (.invokevirtual 109, 3) := by decide +kernel
theorem dX7_makeNew_173 : decode cX7_makeNew 173 = .ok (.return_, 1) := by decide +kernel
theorem dX7_countData_0 : decode cX7_countData 0 = .ok (.aload_n 0, 1) := by decide +kernel
theorem dX7_countData_1 : decode cX7_countData 1 = .ok (.dup, 1) := by decide +kernel
theorem dX7_countData_2 : decode cX7_countData 2 = .ok (.getfield 134, 3) := by decide +kernel
theorem dX7_countData_5 : decode cX7_countData 5 = .ok (.iconst 1, 1) := by decide +kernel
theorem dX7_countData_6 : decode cX7_countData 6 = .ok (.iadd, 1) := by decide +kernel
theorem dX7_countData_7 : decode cX7_countData 7 = .ok (.putfield 134, 3) := by decide +kernel
theorem dX7_countData_10 : decode cX7_countData 10 = .ok (.aload_n 0, 1) := by decide +kernel
theorem dX7_countData_11 : decode cX7_countData 11 = .ok (.getfield 29, 3) := by decide +kernel
theorem dX7_countData_14 : decode cX7_countData 14 = .ok (.getfield 56, 3) := by decide +kernel
theorem dX7_countData_17 : decode cX7_countData 17 = .ok (.ifCond .ne 14, 3) := by decide +kernel
theorem dX7_countData_20 : decode cX7_countData 20 = .ok (.aload_n 0, 1) := by decide +kernel
theorem dX7_countData_21 : decode cX7_countData 21 = .ok (.getfield 40, 3) := by decide +kernel
theorem dX7_countData_24 : decode cX7_countData 24 = .ok (.ifCond .ne 7, 3) := by decide +kernel
theorem dX7_countData_27 : decode cX7_countData 27 = .ok (.iconst 1, 1) := by decide +kernel
theorem dX7_countData_28 : decode cX7_countData 28 = .ok (.goto 4, 3) := by decide +kernel
theorem dX7_countData_31 : decode cX7_countData 31 = .ok (.iconst 0, 1) := by decide +kernel
theorem dX7_countData_32 : decode cX7_countData 32 = .ok (.istore_n 1, 1) := by decide +kernel
theorem dX7_countData_33 : decode cX7_countData 33 = .ok (.aload_n 0, 1) := by decide +kernel
theorem dX7_countData_34 : decode cX7_countData 34 = .ok (.getfield 37, 3) := by decide +kernel
theorem dX7_countData_37 : decode cX7_countData 37 = .ok (.aload_n 0, 1) := by decide +kernel
theorem dX7_countData_38 : decode cX7_countData 38 = .ok (.getfield 34, 3) := by decide +kernel
theorem dX7_countData_41 : decode cX7_countData 41 = .ok (.isub, 1) := by decide +kernel
theorem dX7_countData_42 : decode cX7_countData 42 = .ok (.bipush 16, 2) := by decide +kernel
theorem dX7_countData_44 : decode cX7_countData 44 = .ok (.if_icmp .ne 7, 3) := by decide +kernel
theorem dX7_countData_47 : decode cX7_countData 47 = .ok (.iconst 1, 1) := by decide +kernel
theorem dX7_countData_48 : decode cX7_countData 48 = .ok (.goto 4, 3) := by decide +kernel
theorem dX7_countData_51 : decode cX7_countData 51 = .ok (.iconst 0, 1) := by decide +kernel
theorem dX7_countData_52 : decode cX7_countData 52 = .ok (.istore_n 2, 1) := by decide +kernel
theorem dX7_countData_53 : decode cX7_countData 53 = .ok (.aload_n 0, 1) := by decide +kernel
theorem dX7_countData_54 : decode cX7_countData 54 = .ok (.getfield 43, 3) := by decide +kernel
theorem dX7_countData_57 : decode cX7_countData 57 = .ok (.ifCond .ne 31, 3) := by decide +kernel
theorem dX7_countData_60 : decode cX7_countData 60 = .ok (.aload_n 0, 1) := by decide +kernel
theorem dX7_countData_61 : decode cX7_countData 61 = .ok (.getfield 53, 3) := by decide +kernel
theorem dX7_countData_64 : decode cX7_countData 64 = .ok (.iconst 3, 1) := by decide +kernel
theorem dX7_countData_65 : decode cX7_countData 65 = .ok (.if_icmp .ge 23, 3) := by decide +kernel
theorem dX7_countData_68 : decode cX7_countData 68 = .ok (.iload_n 1, 1) := by decide +kernel
theorem dX7_countData_69 : decode cX7_countData 69 = .ok (.ifCond .ne 19, 3) := by decide +kernel
theorem dX7_countData_72 : decode cX7_countData 72 = .ok (.iload_n 2, 1) := by decide +kernel
theorem dX7_countData_73 : decode cX7_countData 73 = .ok (.ifCond .ne 15, 3) := by decide +kernel
theorem dX7_countData_76 : decode cX7_countData 76 = .ok (.aload_n 0, 1) := by decide +kernel
theorem dX7_countData_77 : decode cX7_countData 77 = .ok (.dup, 1) := by decide +kernel
theorem dX7_countData_78 : decode cX7_countData 78 = .ok (.getfield 53, 3) := by decide +kernel
theorem dX7_countData_81 : decode cX7_countData 81 = .ok (.iconst 1, 1) := by decide +kernel
theorem dX7_countData_82 : decode cX7_countData 82 = .ok (.iadd, 1) := by decide +kernel
theorem dX7_countData_83 : decode cX7_countData 83 = .ok (.putfield 53, 3) := by decide +kernel
theorem dX7_countData_86 : decode cX7_countData 86 = .ok (.iconst 0, 1) := by decide +kernel
theorem dX7_countData_87 : decode cX7_countData 87 = .ok (.ireturn, 1) := by decide +kernel
theorem dX7_countData_88 : decode cX7_countData 88 = .ok (.aload_n 0, 1) := by decide +kernel
theorem dX7_countData_89 : decode cX7_countData 89 = .ok (.iconst 0, 1) := by decide +kernel
theorem dX7_countData_90 : decode cX7_countData 90 = .ok (.putfield 43, 3) := by decide +kernel
theorem dX7_countData_93 : decode cX7_countData 93 = .ok (.aload_n 0, 1) := by decide +kernel
theorem dX7_countData_94 : decode cX7_countData 94 = .ok (.iconst 0, 1) := by decide +kernel
theorem dX7_countData_95 : decode cX7_countData 95 = .ok (.putfield 53, 3) := by decide +kernel
theorem dX7_countData_98 : decode cX7_countData 98 = .ok (.aload_n 0, 1) := by decide +kernel
theorem dX7_countData_99 : decode cX7_countData 99 = .ok (.aload_n 0, 1) := by decide +kernel
theorem dX7_countData_100 : decode cX7_countData 100 = .ok (.getfield 37, 3) := by decide +kernel
theorem dX7_countData_103 : decode cX7_countData 103 = .ok (.iconst 1, 1) := by decide +kernel
theorem dX7_countData_104 : decode cX7_countData 104 = .ok (.isub, 1) := by decide +kernel
theorem dX7_countData_105 : decode cX7_countData 105 = .ok (.putfield 21, 3) := by decide +kernel
theorem dX7_countData_108 : decode cX7_countData 108 = .ok (.aload_n 0, 1) := by decide +kernel
theorem dX7_countData_109 : decode cX7_countData 109 = .ok (.bipush 10, 2) := by decide +kernel
theorem dX7_countData_111 : decode cX7_countData 111 = .ok (.putfield 50, 3) := by decide +kernel
theorem dX7_countData_114 : decode cX7_countData 114 = .ok (.iconst 1, 1) := by decide +kernel
theorem dX7_countData_115 : decode cX7_countData 115 = .ok (.ireturn, 1) := by decide +kernel
theorem dX7_meant_0 : decode cX7_meant 0 = .ok (.aload_n 0, 1) := by decide +kernel
theorem dX7_meant_1 : decode cX7_meant 1 = .ok (.getfield 34, 3) := by decide +kernel
theorem dX7_meant_4 : decode cX7_meant 4 = .ok (.iload_n 1, 1) := by decide +kernel
theorem dX7_meant_5 : decode cX7_meant 5 = .ok (.aload_n 0, 1) := by decide +kernel
theorem dX7_meant_6 : decode cX7_meant 6 = .ok (.getfield 34, 3) := by decide +kernel
theorem dX7_meant_9 : decode cX7_meant 9 = .ok (.isub, 1) := by decide +kernel
theorem dX7_meant_10 : decode cX7_meant 10 = .ok (.bipush 63, 2) := by decide +kernel
theorem dX7_meant_12 : decode cX7_meant 12 = .ok (.iand, 1) := by decide +kernel
theorem dX7_meant_13 : decode cX7_meant 13 = .ok (.iadd, 1) := by decide +kernel
theorem dX7_meant_14 : decode cX7_meant 14 = .ok (.ireturn, 1) := by decide +kernel
theorem dX7_takeStatus_0 : decode cX7_takeStatus 0 = .ok (.aload_n 0, 1) := by decide +kernel
theorem dX7_takeStatus_1 : decode cX7_takeStatus 1 = .ok (.dup, 1) := by decide +kernel
theorem dX7_takeStatus_2 : decode cX7_takeStatus 2 = .ok (.getfield 137, 3) := by decide +kernel
theorem dX7_takeStatus_5 : decode cX7_takeStatus 5 = .ok (.iconst 1, 1) := by decide +kernel
theorem dX7_takeStatus_6 : decode cX7_takeStatus 6 = .ok (.iadd, 1) := by decide +kernel
theorem dX7_takeStatus_7 : decode cX7_takeStatus 7 = .ok (.putfield 137, 3) := by decide +kernel
theorem dX7_takeStatus_10 : decode cX7_takeStatus 10 = .ok (.aload_n 0, 1) := by decide +kernel
theorem dX7_takeStatus_11 : decode cX7_takeStatus 11 = .ok (.aload_n 1, 1) := by decide +kernel
theorem dX7_takeStatus_12 : decode cX7_takeStatus 12 = .ok (.iload_n 2, 1) := by decide +kernel
theorem dX7_takeStatus_13 : decode cX7_takeStatus 13 = .ok (.iconst 1, 1) := by decide +kernel
theorem dX7_takeStatus_14 : decode cX7_takeStatus 14 = .ok (.iadd, 1) := by decide +kernel
theorem dX7_takeStatus_15 : decode cX7_takeStatus 15 = .ok (.invokevirtual 140, 3) := by decide +kernel
theorem dX7_takeStatus_18 : decode cX7_takeStatus 18 = .ok (.invokevirtual 146, 3) := by decide +kernel
theorem dX7_takeStatus_21 : decode cX7_takeStatus 21 = .ok (.istore_n 3, 1) := by decide +kernel
theorem dX7_takeStatus_22 : decode cX7_takeStatus 22 = .ok (.iload_n 3, 1) := by decide +kernel
theorem dX7_takeStatus_23 : decode cX7_takeStatus 23 = .ok (.aload_n 0, 1) := by decide +kernel
theorem dX7_takeStatus_24 : decode cX7_takeStatus 24 = .ok (.getfield 37, 3) := by decide +kernel
theorem dX7_takeStatus_27 : decode cX7_takeStatus 27 = .ok (.if_icmp .le 4, 3) := by decide +kernel
theorem dX7_takeStatus_30 : decode cX7_takeStatus 30 = .ok (.return_, 1) := by decide +kernel
theorem dX7_takeStatus_31 : decode cX7_takeStatus 31 = .ok (.aload_n 0, 1) := by decide +kernel
theorem dX7_takeStatus_32 : decode cX7_takeStatus 32 = .ok (.aload_n 1, 1) := by decide +kernel
theorem dX7_takeStatus_33 : decode cX7_takeStatus 33 = .ok (.iload_n 2, 1) := by decide +kernel
theorem dX7_takeStatus_34 : decode cX7_takeStatus 34 = .ok (.invokevirtual 149, 3) := by decide +kernel
theorem dX7_takeStatus_37 : decode cX7_takeStatus 37 = .ok (.aload_n 0, 1) := by decide +kernel
theorem dX7_takeStatus_38 : decode cX7_takeStatus 38 = .ok (.getfield 34, 3) := by decide +kernel
theorem dX7_takeStatus_41 : decode cX7_takeStatus 41 = .ok (.istore 4, 2) := by decide +kernel
theorem dX7_takeStatus_43 : decode cX7_takeStatus 43 = .ok (.iload 4, 2) := by decide +kernel
theorem dX7_takeStatus_45 : decode cX7_takeStatus 45 = .ok (.iload_n 3, 1) := by decide +kernel
theorem dX7_takeStatus_46 : decode cX7_takeStatus 46 = .ok (.if_icmp .ge 39, 3) := by decide +kernel
theorem dX7_takeStatus_49 : decode cX7_takeStatus 49 = .ok (.aload_n 0, 1) := by decide +kernel
theorem dX7_takeStatus_50 : decode cX7_takeStatus 50 = .ok (.iload 4, 2) := by decide +kernel
theorem dX7_takeStatus_52 : decode cX7_takeStatus 52 = .ok (.invokevirtual 59, 3) := by decide +kernel
theorem dX7_takeStatus_55 : decode cX7_takeStatus 55 = .ok (.astore 5, 2) := by decide +kernel
theorem dX7_takeStatus_57 : decode cX7_takeStatus 57 = .ok (.aload 5, 2) := by decide +kernel
theorem dX7_takeStatus_59 : decode cX7_takeStatus 59 = .ok (.getfield 153, 3) := by decide +kernel
theorem dX7_takeStatus_62 : decode cX7_takeStatus 62 = .ok (.ifCond .ne 17, 3) := by decide +kernel
theorem dX7_takeStatus_65 : decode cX7_takeStatus 65 = .ok (.aload 5, 2) := by decide +kernel
theorem dX7_takeStatus_67 : decode cX7_takeStatus 67 = .ok (.getfield 156, 3) := by decide +kernel
theorem dX7_takeStatus_70 : decode cX7_takeStatus 70 = .ok (.ifCond .ne 9, 3) := by decide +kernel
theorem dX7_takeStatus_73 : decode cX7_takeStatus 73 = .ok (.aload_n 0, 1) := by decide +kernel
theorem dX7_takeStatus_74 : decode cX7_takeStatus 74 = .ok (.aload 5, 2) := by decide +kernel
theorem dX7_takeStatus_76 : decode cX7_takeStatus 76 = .ok (.invokevirtual 159, 3) := by decide +kernel
theorem dX7_takeStatus_79 : decode cX7_takeStatus 79 = .ok (.iinc 4 1, 3) := by decide +kernel
theorem dX7_takeStatus_82 : decode cX7_takeStatus 82 = .ok (.goto (-39), 3) := by decide +kernel
theorem dX7_takeStatus_85 : decode cX7_takeStatus 85 = .ok (.aload_n 0, 1) := by decide +kernel
theorem dX7_takeStatus_86 : decode cX7_takeStatus 86 = .ok (.aload_n 1, 1) := by decide +kernel
theorem dX7_takeStatus_87 : decode cX7_takeStatus 87 = .ok (.iload_n 2, 1) := by decide +kernel
theorem dX7_takeStatus_88 : decode cX7_takeStatus 88 = .ok (.invokevirtual 163, 3) := by decide +kernel
theorem dX7_takeStatus_91 : decode cX7_takeStatus 91 = .ok (.iconst 0, 1) := by decide +kernel
theorem dX7_takeStatus_92 : decode cX7_takeStatus 92 = .ok (.istore 4, 2) := by decide +kernel
theorem dX7_takeStatus_94 : decode cX7_takeStatus 94 = .ok (.iload 4, 2) := by decide +kernel
theorem dX7_takeStatus_96 : decode cX7_takeStatus 96 = .ok (.bipush 16, 2) := by decide +kernel
theorem dX7_takeStatus_98 : decode cX7_takeStatus 98 = .ok (.if_icmp .ge 44, 3) := by decide +kernel
theorem dX7_takeStatus_101 : decode cX7_takeStatus 101 = .ok (.aload_n 0, 1) := by decide +kernel
theorem dX7_takeStatus_102 : decode cX7_takeStatus 102 = .ok (.getfield 34, 3) := by decide +kernel
theorem dX7_takeStatus_105 : decode cX7_takeStatus 105 = .ok (.aload_n 0, 1) := by decide +kernel
theorem dX7_takeStatus_106 : decode cX7_takeStatus 106 = .ok (.getfield 37, 3) := by decide +kernel
theorem dX7_takeStatus_109 : decode cX7_takeStatus 109 = .ok (.if_icmp .ge 33, 3) := by decide +kernel
theorem dX7_takeStatus_112 : decode cX7_takeStatus 112 = .ok (.aload_n 0, 1) := by decide +kernel
theorem dX7_takeStatus_113 : decode cX7_takeStatus 113 = .ok (.aload_n 0, 1) := by decide +kernel
theorem dX7_takeStatus_114 : decode cX7_takeStatus 114 = .ok (.getfield 34, 3) := by decide +kernel
theorem dX7_takeStatus_117 : decode cX7_takeStatus 117 = .ok (.invokevirtual 59, 3) := by decide +kernel
theorem dX7_takeStatus_120 : decode cX7_takeStatus 120 = .ok (.getfield 156, 3) := by decide +kernel
theorem dX7_takeStatus_123 : decode cX7_takeStatus 123 = .ok (.ifCond .eq 19, 3) := by decide +kernel
theorem dX7_takeStatus_126 : decode cX7_takeStatus 126 = .ok (.aload_n 0, 1) := by decide +kernel
theorem dX7_takeStatus_127 : decode cX7_takeStatus 127 = .ok (.dup, 1) := by decide +kernel
theorem dX7_takeStatus_128 : decode cX7_takeStatus 128 = .ok (.getfield 34, 3) := by decide +kernel
theorem dX7_takeStatus_131 : decode cX7_takeStatus 131 = .ok (.iconst 1, 1) := by decide +kernel
theorem dX7_takeStatus_132 : decode cX7_takeStatus 132 = .ok (.iadd, 1) := by decide +kernel
theorem dX7_takeStatus_133 : decode cX7_takeStatus 133 = .ok (.putfield 34, 3) := by decide +kernel
theorem dX7_takeStatus_136 : decode cX7_takeStatus 136 = .ok (.iinc 4 1, 3) := by decide +kernel
theorem dX7_takeStatus_139 : decode cX7_takeStatus 139 = .ok (.goto (-45), 3) := by decide +kernel
theorem dX7_takeStatus_142 : decode cX7_takeStatus 142 = .ok (.aload_n 0, 1) := by decide +kernel
theorem dX7_takeStatus_143 : decode cX7_takeStatus 143 = .ok (.getfield 21, 3) := by decide +kernel
theorem dX7_takeStatus_146 : decode cX7_takeStatus 146 = .ok (.iload_n 3, 1) := by decide +kernel
theorem dX7_takeStatus_147 : decode cX7_takeStatus 147 = .ok (.if_icmp .ge 8, 3) := by decide +kernel
theorem dX7_takeStatus_150 : decode cX7_takeStatus 150 = .ok (.aload_n 0, 1) := by decide +kernel
theorem dX7_takeStatus_151 : decode cX7_takeStatus 151 = .ok (.iconst 0, 1) := by decide +kernel
theorem dX7_takeStatus_152 : decode cX7_takeStatus 152 = .ok (.putfield 50, 3) := by decide +kernel
theorem dX7_takeStatus_155 : decode cX7_takeStatus 155 = .ok (.return_, 1) := by decide +kernel
theorem dX7_nameEntries_0 : decode cX7_nameEntries 0 = .ok (.aload_n 0, 1) := by decide +kernel
theorem dX7_nameEntries_1 : decode cX7_nameEntries 1 = .ok (.getfield 34, 3) := by decide +kernel
theorem dX7_nameEntries_4 : decode cX7_nameEntries 4 = .ok (.istore_n 3, 1) := by decide +kernel
theorem dX7_nameEntries_5 : decode cX7_nameEntries 5 = .ok (.iload_n 3, 1) := by decide +kernel
theorem dX7_nameEntries_6 : decode cX7_nameEntries 6 = .ok (.aload_n 0, 1) := by decide +kernel
theorem dX7_nameEntries_7 : decode cX7_nameEntries 7 = .ok (.getfield 37, 3) := by decide +kernel
theorem dX7_nameEntries_10 : decode cX7_nameEntries 10 = .ok (.if_icmp .ge 18, 3) := by decide +kernel
theorem dX7_nameEntries_13 : decode cX7_nameEntries 13 = .ok (.aload_n 0, 1) := by decide +kernel
theorem dX7_nameEntries_14 : decode cX7_nameEntries 14 = .ok (.iload_n 3, 1) := by decide +kernel
theorem dX7_nameEntries_15 : decode cX7_nameEntries 15 = .ok (.invokevirtual 59, 3) := by decide +kernel
theorem dX7_nameEntries_18 : decode cX7_nameEntries 18 = .ok (.iconst 0, 1) := by decide +kernel
theorem dX7_nameEntries_19 : decode cX7_nameEntries 19 = .ok (.putfield 153, 3) := by decide +kernel
theorem dX7_nameEntries_22 : decode cX7_nameEntries 22 = .ok (.iinc 3 1, 3) := by decide +kernel
theorem dX7_nameEntries_25 : decode cX7_nameEntries 25 = .ok (.goto (-20), 3) := by decide +kernel
theorem dX7_nameEntries_28 : decode cX7_nameEntries 28 = .ok (.iload_n 2, 1) := by decide +kernel
theorem dX7_nameEntries_29 : decode cX7_nameEntries 29 = .ok (.iconst 2, 1) := by decide +kernel
theorem dX7_nameEntries_30 : decode cX7_nameEntries 30 = .ok (.iadd, 1) := by decide +kernel
theorem dX7_nameEntries_31 : decode cX7_nameEntries 31 = .ok (.istore_n 3, 1) := by decide +kernel
theorem dX7_nameEntries_32 : decode cX7_nameEntries 32 = .ok (.iconst 0, 1) := by decide +kernel
theorem dX7_nameEntries_33 : decode cX7_nameEntries 33 = .ok (.istore 4, 2) := by decide +kernel
theorem dX7_nameEntries_35 : decode cX7_nameEntries 35 = .ok (.iload 4, 2) := by decide +kernel
theorem dX7_nameEntries_37 : decode cX7_nameEntries 37 = .ok (.aload_n 1, 1) := by decide +kernel
theorem dX7_nameEntries_38 : decode cX7_nameEntries 38 = .ok (.iload_n 2, 1) := by decide +kernel
theorem dX7_nameEntries_39 : decode cX7_nameEntries 39 = .ok (.invokevirtual 140, 3) := by decide +kernel
theorem dX7_nameEntries_42 : decode cX7_nameEntries 42 = .ok (.if_icmp .ge 58, 3) := by decide +kernel
theorem dX7_nameEntries_45 : decode cX7_nameEntries 45 = .ok (.aload_n 0, 1) := by decide +kernel
theorem dX7_nameEntries_46 : decode cX7_nameEntries 46 = .ok (.aload_n 1, 1) := by decide +kernel
theorem dX7_nameEntries_47 : decode cX7_nameEntries 47 = .ok (.iload_n 3, 1) := by decide +kernel
theorem dX7_nameEntries_48 : decode cX7_nameEntries 48 = .ok (.invokevirtual 140, 3) := by decide +kernel
theorem dX7_nameEntries_51 : decode cX7_nameEntries 51 = .ok (.invokevirtual 146, 3) := by decide +kernel
theorem dX7_nameEntries_54 : decode cX7_nameEntries 54 = .ok (.istore 5, 2) := by decide +kernel
theorem dX7_nameEntries_56 : decode cX7_nameEntries 56 = .ok (.iload 5, 2) := by decide +kernel
theorem dX7_nameEntries_58 : decode cX7_nameEntries 58 = .ok (.aload_n 0, 1) := by decide +kernel
theorem dX7_nameEntries_59 : decode cX7_nameEntries 59 = .ok (.getfield 37, 3) := by decide +kernel
theorem dX7_nameEntries_62 : decode cX7_nameEntries 62 = .ok (.if_icmp .ge 13, 3) := by decide +kernel
theorem dX7_nameEntries_65 : decode cX7_nameEntries 65 = .ok (.aload_n 0, 1) := by decide +kernel
theorem dX7_nameEntries_66 : decode cX7_nameEntries 66 = .ok (.iload 5, 2) := by decide +kernel
theorem dX7_nameEntries_68 : decode cX7_nameEntries 68 = .ok (.invokevirtual 59, 3) := by decide +kernel
theorem dX7_nameEntries_71 : decode cX7_nameEntries 71 = .ok (.iconst 1, 1) := by decide +kernel
theorem dX7_nameEntries_72 : decode cX7_nameEntries 72 = .ok (.putfield 153, 3) := by decide +kernel
theorem dX7_nameEntries_75 : decode cX7_nameEntries 75 = .ok (.iload_n 3, 1) := by decide +kernel
theorem dX7_nameEntries_76 : decode cX7_nameEntries 76 = .ok (.aload_n 1, 1) := by decide +kernel
theorem dX7_nameEntries_77 : decode cX7_nameEntries 77 = .ok (.iload_n 3, 1) := by decide +kernel
theorem dX7_nameEntries_78 : decode cX7_nameEntries 78 = .ok (.invokevirtual 140, 3) := by decide +kernel
theorem dX7_nameEntries_81 : decode cX7_nameEntries 81 = .ok (.sipush 128, 3) := by decide +kernel
theorem dX7_nameEntries_84 : decode cX7_nameEntries 84 = .ok (.if_icmp .ge 7, 3) := by decide +kernel
theorem dX7_nameEntries_87 : decode cX7_nameEntries 87 = .ok (.iconst 1, 1) := by decide +kernel
theorem dX7_nameEntries_88 : decode cX7_nameEntries 88 = .ok (.goto 4, 3) := by decide +kernel
theorem dX7_nameEntries_91 : decode cX7_nameEntries 91 = .ok (.iconst 3, 1) := by decide +kernel
theorem dX7_nameEntries_92 : decode cX7_nameEntries 92 = .ok (.iadd, 1) := by decide +kernel
theorem dX7_nameEntries_93 : decode cX7_nameEntries 93 = .ok (.istore_n 3, 1) := by decide +kernel
theorem dX7_nameEntries_94 : decode cX7_nameEntries 94 = .ok (.iinc 4 1, 3) := by decide +kernel
theorem dX7_nameEntries_97 : decode cX7_nameEntries 97 = .ok (.goto (-62), 3) := by decide +kernel
theorem dX7_nameEntries_100 : decode cX7_nameEntries 100 = .ok (.return_, 1) := by decide +kernel
theorem dX7_takeEntries_0 : decode cX7_takeEntries 0 = .ok (.iload_n 2, 1) := by decide +kernel
theorem dX7_takeEntries_1 : decode cX7_takeEntries 1 = .ok (.iconst 2, 1) := by decide +kernel
theorem dX7_takeEntries_2 : decode cX7_takeEntries 2 = .ok (.iadd, 1) := by decide +kernel
theorem dX7_takeEntries_3 : decode cX7_takeEntries 3 = .ok (.istore_n 3, 1) := by decide +kernel
theorem dX7_takeEntries_4 : decode cX7_takeEntries 4 = .ok (.iconst 0, 1) := by decide +kernel
theorem dX7_takeEntries_5 : decode cX7_takeEntries 5 = .ok (.istore 4, 2) := by decide +kernel
theorem dX7_takeEntries_7 : decode cX7_takeEntries 7 = .ok (.iload 4, 2) := by decide +kernel
theorem dX7_takeEntries_9 : decode cX7_takeEntries 9 = .ok (.aload_n 1, 1) := by decide +kernel
theorem dX7_takeEntries_10 : decode cX7_takeEntries 10 = .ok (.iload_n 2, 1) := by decide +kernel
theorem dX7_takeEntries_11 : decode cX7_takeEntries 11 = .ok (.invokevirtual 140, 3) := by decide +kernel
theorem dX7_takeEntries_14 : decode cX7_takeEntries 14 = .ok (.if_icmp .ge 126, 3) := by decide +kernel
theorem dX7_takeEntries_17 : decode cX7_takeEntries 17 = .ok (.aload_n 0, 1) := by decide +kernel
theorem dX7_takeEntries_18 : decode cX7_takeEntries 18 = .ok (.aload_n 1, 1) := by decide +kernel
theorem dX7_takeEntries_19 : decode cX7_takeEntries 19 = .ok (.iload_n 3, 1) := by decide +kernel
theorem dX7_takeEntries_20 : decode cX7_takeEntries 20 = .ok (.invokevirtual 140, 3) := by decide +kernel
theorem dX7_takeEntries_23 : decode cX7_takeEntries 23 = .ok (.invokevirtual 146, 3) := by decide +kernel
theorem dX7_takeEntries_26 : decode cX7_takeEntries 26 = .ok (.istore 5, 2) := by decide +kernel
theorem dX7_takeEntries_28 : decode cX7_takeEntries 28 = .ok (.aload_n 1, 1) := by decide +kernel
theorem dX7_takeEntries_29 : decode cX7_takeEntries 29 = .ok (.iload_n 3, 1) := by decide +kernel
theorem dX7_takeEntries_30 : decode cX7_takeEntries 30 = .ok (.invokevirtual 140, 3) := by decide +kernel
theorem dX7_takeEntries_33 : decode cX7_takeEntries 33 = .ok (.sipush 128, 3) := by decide +kernel
theorem dX7_takeEntries_36 : decode cX7_takeEntries 36 = .ok (.if_icmp .ge 7, 3) := by decide +kernel
theorem dX7_takeEntries_39 : decode cX7_takeEntries 39 = .ok (.iconst 1, 1) := by decide +kernel
theorem dX7_takeEntries_40 : decode cX7_takeEntries 40 = .ok (.goto 4, 3) := by decide +kernel
theorem dX7_takeEntries_43 : decode cX7_takeEntries 43 = .ok (.iconst 0, 1) := by decide +kernel
theorem dX7_takeEntries_44 : decode cX7_takeEntries 44 = .ok (.istore 6, 2) := by decide +kernel
theorem dX7_takeEntries_46 : decode cX7_takeEntries 46 = .ok (.iload 5, 2) := by decide +kernel
theorem dX7_takeEntries_48 : decode cX7_takeEntries 48 = .ok (.aload_n 0, 1) := by decide +kernel
theorem dX7_takeEntries_49 : decode cX7_takeEntries 49 = .ok (.getfield 37, 3) := by decide +kernel
theorem dX7_takeEntries_52 : decode cX7_takeEntries 52 = .ok (.if_icmp .ge 69, 3) := by decide +kernel
theorem dX7_takeEntries_55 : decode cX7_takeEntries 55 = .ok (.aload_n 0, 1) := by decide +kernel
theorem dX7_takeEntries_56 : decode cX7_takeEntries 56 = .ok (.iload 5, 2) := by decide +kernel
theorem dX7_takeEntries_58 : decode cX7_takeEntries 58 = .ok (.invokevirtual 59, 3) := by decide +kernel
theorem dX7_takeEntries_61 : decode cX7_takeEntries 61 = .ok (.getfield 156, 3) := by decide +kernel
theorem dX7_takeEntries_64 : decode cX7_takeEntries 64 = .ok (.ifCond .ne 57, 3) := by decide +kernel
theorem dX7_takeEntries_67 : decode cX7_takeEntries 67 = .ok (.iload 6, 2) := by decide +kernel
theorem dX7_takeEntries_69 : decode cX7_takeEntries 69 = .ok (.ifCond .eq 7, 3) := by decide +kernel
theorem dX7_takeEntries_72 : decode cX7_takeEntries 72 = .ok (.iconst 0, 1) := by decide +kernel
theorem dX7_takeEntries_73 : decode cX7_takeEntries 73 = .ok (.goto 10, 3) := by decide +kernel
theorem dX7_takeEntries_76 : decode cX7_takeEntries 76 = .ok (.aload_n 1, 1) := by decide +kernel
theorem dX7_takeEntries_77 : decode cX7_takeEntries 77 = .ok (.iload_n 3, 1) := by decide +kernel
theorem dX7_takeEntries_78 : decode cX7_takeEntries 78 = .ok (.iconst 1, 1) := by decide +kernel
theorem dX7_takeEntries_79 : decode cX7_takeEntries 79 = .ok (.iadd, 1) := by decide +kernel
theorem dX7_takeEntries_80 : decode cX7_takeEntries 80 = .ok (.invokevirtual 140, 3) := by decide +kernel
theorem dX7_takeEntries_83 : decode cX7_takeEntries 83 = .ok (.istore 7, 2) := by decide +kernel
theorem dX7_takeEntries_85 : decode cX7_takeEntries 85 = .ok (.iload 6, 2) := by decide +kernel
theorem dX7_takeEntries_87 : decode cX7_takeEntries 87 = .ok (.ifCond .eq 9, 3) := by decide +kernel
theorem dX7_takeEntries_90 : decode cX7_takeEntries 90 = .ok (.sipush 240, 3) := by decide +kernel
theorem dX7_takeEntries_93 : decode cX7_takeEntries 93 = .ok (.goto 10, 3) := by decide +kernel
theorem dX7_takeEntries_96 : decode cX7_takeEntries 96 = .ok (.aload_n 1, 1) := by decide +kernel
theorem dX7_takeEntries_97 : decode cX7_takeEntries 97 = .ok (.iload_n 3, 1) := by decide +kernel
theorem dX7_takeEntries_98 : decode cX7_takeEntries 98 = .ok (.iconst 2, 1) := by decide +kernel
theorem dX7_takeEntries_99 : decode cX7_takeEntries 99 = .ok (.iadd, 1) := by decide +kernel
theorem dX7_takeEntries_100 : decode cX7_takeEntries 100 = .ok (.invokevirtual 140, 3) := by decide +kernel
theorem dX7_takeEntries_103 : decode cX7_takeEntries 103 = .ok (.istore 8, 2) := by decide +kernel
theorem dX7_takeEntries_105 : decode cX7_takeEntries 105 = .ok (.aload_n 0, 1) := by decide +kernel
theorem dX7_takeEntries_106 : decode cX7_takeEntries 106 = .ok (.aload_n 0, 1) := by decide +kernel
theorem dX7_takeEntries_107 : decode cX7_takeEntries 107 = .ok (.iload 5, 2) := by decide +kernel
theorem dX7_takeEntries_109 : decode cX7_takeEntries 109 = .ok (.invokevirtual 59, 3) := by decide +kernel
theorem dX7_takeEntries_112 : decode cX7_takeEntries 112 = .ok (.iload 7, 2) := by decide +kernel
theorem dX7_takeEntries_114 : decode cX7_takeEntries 114 = .ok (.iload 8, 2) := by decide +kernel
theorem dX7_takeEntries_116 : decode cX7_takeEntries 116 = .ok (.iconst 1, 1) := by decide +kernel
theorem dX7_takeEntries_117 : decode cX7_takeEntries 117 = .ok (.iadd, 1) := by decide +kernel
theorem dX7_takeEntries_118 : decode cX7_takeEntries 118 = .ok (.invokevirtual 63, 3) := by decide +kernel
theorem dX7_takeEntries_121 : decode cX7_takeEntries 121 = .ok (.iload_n 3, 1) := by decide +kernel
theorem dX7_takeEntries_122 : decode cX7_takeEntries 122 = .ok (.iload 6, 2) := by decide +kernel
theorem dX7_takeEntries_124 : decode cX7_takeEntries 124 = .ok (.ifCond .eq 7, 3) := by decide +kernel
theorem dX7_takeEntries_127 : decode cX7_takeEntries 127 = .ok (.iconst 1, 1) := by decide +kernel
theorem dX7_takeEntries_128 : decode cX7_takeEntries 128 = .ok (.goto 4, 3) := by decide +kernel
theorem dX7_takeEntries_131 : decode cX7_takeEntries 131 = .ok (.iconst 3, 1) := by decide +kernel
theorem dX7_takeEntries_132 : decode cX7_takeEntries 132 = .ok (.iadd, 1) := by decide +kernel
theorem dX7_takeEntries_133 : decode cX7_takeEntries 133 = .ok (.istore_n 3, 1) := by decide +kernel
theorem dX7_takeEntries_134 : decode cX7_takeEntries 134 = .ok (.iinc 4 1, 3) := by decide +kernel
theorem dX7_takeEntries_137 : decode cX7_takeEntries 137 = .ok (.goto (-130), 3) := by decide +kernel
theorem dX7_takeEntries_140 : decode cX7_takeEntries 140 = .ok (.return_, 1) := by decide +kernel
theorem dX7_confirm_0 : decode cX7_confirm 0 = .ok (.aload_n 1, 1) := by decide +kernel
theorem dX7_confirm_1 : decode cX7_confirm 1 = .ok (.iconst 1, 1) := by decide +kernel
theorem dX7_confirm_2 : decode cX7_confirm 2 = .ok (.putfield 156, 3) := by decide +kernel
theorem dX7_confirm_5 : decode cX7_confirm 5 = .ok (.aload_n 0, 1) := by decide +kernel
theorem dX7_confirm_6 : decode cX7_confirm 6 = .ok (.dup, 1) := by decide +kernel
theorem dX7_confirm_7 : decode cX7_confirm 7 = .ok (.getfield 40, 3) := by decide +kernel
theorem dX7_confirm_10 : decode cX7_confirm 10 = .ok (.aload_n 1, 1) := by decide +kernel
theorem dX7_confirm_11 : decode cX7_confirm 11 = .ok (.getfield 76, 3) := by decide +kernel
theorem dX7_confirm_14 : decode cX7_confirm 14 = .ok (.isub, 1) := by decide +kernel
theorem dX7_confirm_15 : decode cX7_confirm 15 = .ok (.putfield 40, 3) := by decide +kernel
theorem dX7_confirm_18 : decode cX7_confirm 18 = .ok (.aload_n 1, 1) := by decide +kernel
theorem dX7_confirm_19 : decode cX7_confirm 19 = .ok (.iconst 0, 1) := by decide +kernel
theorem dX7_confirm_20 : decode cX7_confirm 20 = .ok (.putfield 76, 3) := by decide +kernel
theorem dX7_confirm_23 : decode cX7_confirm 23 = .ok (.iconst 0, 1) := by decide +kernel
theorem dX7_confirm_24 : decode cX7_confirm 24 = .ok (.istore_n 2, 1) := by decide +kernel
theorem dX7_confirm_25 : decode cX7_confirm 25 = .ok (.iload_n 2, 1) := by decide +kernel
theorem dX7_confirm_26 : decode cX7_confirm 26 = .ok (.aload_n 1, 1) := by decide +kernel
theorem dX7_confirm_27 : decode cX7_confirm 27 = .ok (.getfield 82, 3) := by decide +kernel
theorem dX7_confirm_30 : decode cX7_confirm 30 = .ok (.if_icmp .ge 21, 3) := by decide +kernel
theorem dX7_confirm_33 : decode cX7_confirm 33 = .ok (.aload_n 0, 1) := by decide +kernel
theorem dX7_confirm_34 : decode cX7_confirm 34 = .ok (.getfield 29, 3) := by decide +kernel
theorem dX7_confirm_37 : decode cX7_confirm 37 = .ok (.aload_n 1, 1) := by decide +kernel
theorem dX7_confirm_38 : decode cX7_confirm 38 = .ok (.iload_n 2, 1) := by decide +kernel
theorem dX7_confirm_39 : decode cX7_confirm 39 = .ok (.invokevirtual 166, 3) := by decide +kernel
theorem dX7_confirm_42 : decode cX7_confirm 42 = .ok (.invokevirtual 169, 3) := by decide +kernel
theorem dX7_confirm_45 : decode cX7_confirm 45 = .ok (.iinc 2 1, 3) := by decide +kernel
theorem dX7_confirm_48 : decode cX7_confirm 48 = .ok (.goto (-23), 3) := by decide +kernel
theorem dX7_confirm_51 : decode cX7_confirm 51 = .ok (.return_, 1) := by decide +kernel
theorem dX8_init_0 : decode cX8_init 0 = .ok (.aload_n 0, 1) := by decide +kernel
theorem dX8_init_1 : decode cX8_init 1 = .ok (.invokespecial 1, 3) := by decide +kernel
theorem dX8_init_4 : decode cX8_init 4 = .ok (.aload_n 0, 1) := by decide +kernel
theorem dX8_init_5 : decode cX8_init 5 = .ok (.bipush 120, 2) := by decide +kernel
theorem dX8_init_7 : decode cX8_init 7 = .ok (.newarray .int, 2) := by decide +kernel
theorem dX8_init_9 : decode cX8_init 9 = .ok (.putfield 9, 3) := by decide +kernel
theorem dX8_init_12 : decode cX8_init 12 = .ok (.aload_n 0, 1) := by decide +kernel
theorem dX8_init_13 : decode cX8_init 13 = .ok (.iconst 2, 1) := by decide +kernel
theorem dX8_init_14 : decode cX8_init 14 = .ok (.newarray .int, 2) := by decide +kernel
theorem dX8_init_16 : decode cX8_init 16 = .ok (.putfield 13, 3) := by decide +kernel
theorem dX8_init_19 : decode cX8_init 19 = .ok (.aload_n 0, 1) := by decide +kernel
theorem dX8_init_20 : decode cX8_init 20 = .ok (.iload_n 1, 1) := by decide +kernel
theorem dX8_init_21 : decode cX8_init 21 = .ok (.iconst 1, 1) := by decide +kernel
theorem dX8_init_22 : decode cX8_init 22 = .ok (.if_icmp .lt 8, 3) := by decide +kernel
theorem dX8_init_25 : decode cX8_init 25 = .ok (.iload_n 1, 1) := by decide +kernel
theorem dX8_init_26 : decode cX8_init 26 = .ok (.iconst 3, 1) := by decide +kernel
theorem dX8_init_27 : decode cX8_init 27 = .ok (.if_icmp .le 7, 3) := by decide +kernel
theorem dX8_init_30 : decode cX8_init 30 = .ok (.iconst 2, 1) := by decide +kernel
theorem dX8_init_31 : decode cX8_init 31 = .ok (.goto 4, 3) := by decide +kernel
theorem dX8_init_34 : decode cX8_init 34 = .ok (.iload_n 1, 1) := by decide +kernel
theorem dX8_init_35 : decode cX8_init 35 = .ok (.putfield 16, 3) := by decide +kernel
theorem dX8_init_38 : decode cX8_init 38 = .ok (.aload_n 0, 1) := by decide +kernel
theorem dX8_init_39 : decode cX8_init 39 = .ok (.iload_n 2, 1) := by decide +kernel
theorem dX8_init_40 : decode cX8_init 40 = .ok (.putfield 20, 3) := by decide +kernel
theorem dX8_init_43 : decode cX8_init 43 = .ok (.aload_n 0, 1) := by decide +kernel
theorem dX8_init_44 : decode cX8_init 44 = .ok (.new 23, 3) := by decide +kernel
theorem dX8_init_47 : decode cX8_init 47 = .ok (.dup, 1) := by decide +kernel
theorem dX8_init_48 : decode cX8_init 48 = .ok (.invokespecial 25, 3) := by decide +kernel
theorem dX8_init_51 : decode cX8_init 51 = .ok (.putfield 26, 3) := by decide +kernel
theorem dX8_init_54 : decode cX8_init 54 = .ok (.aload_n 0, 1) := by decide +kernel
theorem dX8_init_55 : decode cX8_init 55 = .ok (.getfield 26, 3) := by decide +kernel
theorem dX8_init_58 : decode cX8_init 58 = .ok (.iload_n 2, 1) := by decide +kernel
theorem dX8_init_59 : decode cX8_init 59 = .ok (.iconst 0, 1) := by decide +kernel
theorem dX8_init_60 : decode cX8_init 60 = .ok (.invokevirtual 30, 3) := by decide +kernel
theorem dX8_init_63 : decode cX8_init 63 = .ok (.iconst 2, 1) := by decide +kernel
theorem dX8_init_64 : decode cX8_init 64 = .ok (.aload_n 0, 1) := by decide +kernel
theorem dX8_init_65 : decode cX8_init 65 = .ok (.getfield 16, 3) := by decide +kernel
theorem dX8_init_68 : decode cX8_init 68 = .ok (.imul, 1) := by decide +kernel
theorem dX8_init_69 : decode cX8_init 69 = .ok (.istore_n 3, 1) := by decide +kernel
theorem dX8_init_70 : decode cX8_init 70 = .ok (.aload_n 0, 1) := by decide +kernel
theorem dX8_init_71 : decode cX8_init 71 = .ok (.iload_n 3, 1) := by decide +kernel
theorem dX8_init_72 : decode cX8_init 72 = .ok (.anewarray 34, 3) := by decide +kernel
theorem dX8_init_75 : decode cX8_init 75 = .ok (.putfield 36, 3) := by decide +kernel
theorem dX8_init_78 : decode cX8_init 78 = .ok (.aload_n 0, 1) := by decide +kernel
theorem dX8_init_79 : decode cX8_init 79 = .ok (.iload_n 3, 1) := by decide +kernel
theorem dX8_init_80 : decode cX8_init 80 = .ok (.anewarray 40, 3) := by decide +kernel
theorem dX8_init_83 : decode cX8_init 83 = .ok (.putfield 42, 3) := by decide +kernel
theorem dX8_init_86 : decode cX8_init 86 = .ok (.iconst 0, 1) := by decide +kernel
theorem dX8_init_87 : decode cX8_init 87 = .ok (.istore 4, 2) := by decide +kernel
theorem dX8_init_89 : decode cX8_init 89 = .ok (.iload 4, 2) := by decide +kernel
theorem dX8_init_91 : decode cX8_init 91 = .ok (.iload_n 3, 1) := by decide +kernel
theorem dX8_init_92 : decode cX8_init 92 = .ok (.if_icmp .ge 87, 3) := by decide +kernel
theorem dX8_init_95 : decode cX8_init 95 = .ok (.iload 4, 2) := by decide +kernel
theorem dX8_init_97 : decode cX8_init 97 = .ok (.aload_n 0, 1) := by decide +kernel
theorem dX8_init_98 : decode cX8_init 98 = .ok (.getfield 16, 3) := by decide +kernel
theorem dX8_init_101 : decode cX8_init 101 = .ok (.if_icmp .ge 7, 3) := by decide +kernel
theorem dX8_init_104 : decode cX8_init 104 = .ok (.iconst 0, 1) := by decide +kernel
theorem dX8_init_105 : decode cX8_init 105 = .ok (.goto 4, 3) := by decide +kernel
theorem dX8_init_108 : decode cX8_init 108 = .ok (.iconst 1, 1) := by decide +kernel
theorem dX8_init_109 : decode cX8_init 109 = .ok (.istore 5, 2) := by decide +kernel
theorem dX8_init_111 : decode cX8_init 111 = .ok (.iload 4, 2) := by decide +kernel
theorem dX8_init_113 : decode cX8_init 113 = .ok (.iload 5, 2) := by decide +kernel
theorem dX8_init_115 : decode cX8_init 115 = .ok (.aload_n 0, 1) := by decide +kernel
theorem dX8_init_116 : decode cX8_init 116 = .ok (.getfield 16, 3) := by decide +kernel
theorem dX8_init_119 : decode cX8_init 119 = .ok (.imul, 1) := by decide +kernel
theorem dX8_init_120 : decode cX8_init 120 = .ok (.isub, 1) := by decide +kernel
theorem dX8_init_121 : decode cX8_init 121 = .ok (.istore 6, 2) := by decide +kernel
theorem dX8_init_123 : decode cX8_init 123 = .ok (.aload_n 0, 1) := by decide +kernel
theorem dX8_init_124 : decode cX8_init 124 = .ok (.getfield 36, 3) := by decide +kernel
theorem dX8_init_127 : decode cX8_init 127 = .ok (.iload 4, 2) := by decide +kernel
theorem dX8_init_129 : decode cX8_init 129 = .ok (.new 34, 3) := by decide +kernel
theorem dX8_init_132 : decode cX8_init 132 = .ok (.dup, 1) := by decide +kernel
theorem dX8_init_133 : decode cX8_init 133 = .ok (.bipush 8, 2) := by decide +kernel
theorem dX8_init_135 : decode cX8_init 135 = .ok (.iload 6, 2) := by decide +kernel
theorem dX8_init_137 : decode cX8_init 137 = .ok (.imul, 1) := by decide +kernel
theorem dX8_init_138 : decode cX8_init 138 = .ok (.iconst 4, 1) := by decide +kernel
theorem dX8_init_139 : decode cX8_init 139 = .ok (.iload 5, 2) := by decide +kernel
theorem dX8_init_141 : decode cX8_init 141 = .ok (.imul, 1) := by decide +kernel
theorem dX8_init_142 : decode cX8_init 142 = .ok (.iadd, 1) := by decide +kernel
theorem dX8_init_143 : decode cX8_init 143 = .ok (.invokespecial 46, 3) := by decide +kernel
theorem dX8_init_146 : decode cX8_init 146 = .ok (.aastore, 1) := by decide +kernel
theorem dX8_init_147 : decode cX8_init 147 = .ok (.aload_n 0, 1) := by decide +kernel
theorem dX8_init_148 : decode cX8_init 148 = .ok (.getfield 42, 3) := by decide +kernel
theorem dX8_init_151 : decode cX8_init 151 = .ok (.iload 4, 2) := by decide +kernel
theorem dX8_init_153 : decode cX8_init 153 = .ok (.new 40, 3) := by decide +kernel
theorem dX8_init_156 : decode cX8_init 156 = .ok (.dup, 1) := by decide +kernel
theorem dX8_init_157 : decode cX8_init 157 = .ok (.bipush 8, 2) := by decide +kernel
theorem dX8_init_159 : decode cX8_init 159 = .ok (.iload 6, 2) := by decide +kernel
theorem dX8_init_161 : decode cX8_init 161 = .ok (.imul, 1) := by decide +kernel
theorem dX8_init_162 : decode cX8_init 162 = .ok (.iconst 4, 1) := by decide +kernel
theorem dX8_init_163 : decode cX8_init 163 = .ok (.iconst 1, 1) := by decide +kernel
theorem dX8_init_164 : decode cX8_init 164 = .ok (.iload 5, 2) := by decide +kernel
theorem dX8_init_166 : decode cX8_init 166 = .ok (.isub, 1) := by decide +kernel
theorem dX8_init_167 : decode cX8_init 167 = .ok (.imul, 1) := by decide +kernel
theorem dX8_init_168 : decode cX8_init 168 = .ok (.iadd, 1) := by decide +kernel
theorem dX8_init_169 : decode cX8_init 169 = .ok (.invokespecial 49, 3) := by decide +kernel
theorem dX8_init_172 : decode cX8_init 172 = .ok (.aastore, 1) := by decide +kernel
theorem dX8_init_173 : decode cX8_init 173 = .ok (.iinc 4 1, 3) := by decide +kernel
theorem dX8_init_176 : decode cX8_init 176 = .ok (.goto (-87), 3) := by decide +kernel
theorem dX8_init_179 : decode cX8_init 179 = .ok (.aload_n 0, 1) := by decide +kernel
theorem dX8_init_180 : decode cX8_init 180 = .ok (.bipush 8, 2) := by decide +kernel
theorem dX8_init_182 : decode cX8_init 182 = .ok (.anewarray 50, 3) := by decide +kernel
theorem dX8_init_185 : decode cX8_init 185 = .ok (.putfield 52, 3) := by decide +kernel
theorem dX8_init_188 : decode cX8_init 188 = .ok (.iconst 0, 1) := by decide +kernel
theorem dX8_init_189 : decode cX8_init 189 = .ok (.istore 4, 2) := by decide +kernel
theorem dX8_init_191 : decode cX8_init 191 = .ok (.iload 4, 2) := by decide +kernel
theorem dX8_init_193 : decode cX8_init 193 = .ok (.aload_n 0, 1) := by decide +kernel
theorem dX8_init_194 : decode cX8_init 194 = .ok (.getfield 52, 3) := by decide +kernel
theorem dX8_init_197 : decode cX8_init 197 = .ok (.arraylength, 1) := by decide +kernel
theorem dX8_init_198 : decode cX8_init 198 = .ok (.if_icmp .ge 23, 3) := by decide +kernel
theorem dX8_init_201 : decode cX8_init 201 = .ok (.aload_n 0, 1) := by decide +kernel
theorem dX8_init_202 : decode cX8_init 202 = .ok (.getfield 52, 3) := by decide +kernel
theorem dX8_init_205 : decode cX8_init 205 = .ok (.iload 4, 2) := by decide +kernel
theorem dX8_init_207 : decode cX8_init 207 = .ok (.new 50, 3) := by decide +kernel
theorem dX8_init_210 : decode cX8_init 210 = .ok (.dup, 1) := by decide +kernel
theorem dX8_init_211 : decode cX8_init 211 = .ok (.invokespecial 56, 3) := by decide +kernel
theorem dX8_init_214 : decode cX8_init 214 = .ok (.aastore, 1) := by decide +kernel
theorem dX8_init_215 : decode cX8_init 215 = .ok (.iinc 4 1, 3) := by decide +kernel
theorem dX8_init_218 : decode cX8_init 218 = .ok (.goto (-27), 3) := by decide +kernel
theorem dX8_init_221 : decode cX8_init 221 = .ok (.return_, 1) := by decide +kernel
theorem dX8_feed_0 : decode cX8_feed 0 = .ok (.aload_n 0, 1) := by decide +kernel
theorem dX8_feed_1 : decode cX8_feed 1 = .ok (.getfield 57, 3) := by decide +kernel
theorem dX8_feed_4 : decode cX8_feed 4 = .ok (.bipush 20, 2) := by decide +kernel
theorem dX8_feed_6 : decode cX8_feed 6 = .ok (.iadd, 1) := by decide +kernel
theorem dX8_feed_7 : decode cX8_feed 7 = .ok (.bipush 120, 2) := by decide +kernel
theorem dX8_feed_9 : decode cX8_feed 9 = .ok (.if_icmp .le 5, 3) := by decide +kernel
theorem dX8_feed_12 : decode cX8_feed 12 = .ok (.iconst (-1), 1) := by decide +kernel
theorem dX8_feed_13 : decode cX8_feed 13 = .ok (.ireturn, 1) := by decide +kernel
theorem dX8_feed_14 : decode cX8_feed 14 = .ok (.aload_n 0, 1) := by decide +kernel
theorem dX8_feed_15 : decode cX8_feed 15 = .ok (.iload_n 1, 1) := by decide +kernel
theorem dX8_feed_16 : decode cX8_feed 16 = .ok (.invokevirtual 60, 3) := by decide +kernel
theorem dX8_feed_19 : decode cX8_feed 19 = .ok (.aload_n 0, 1) := by decide +kernel
theorem dX8_feed_20 : decode cX8_feed 20 = .ok (.iload_n 2, 1) := by decide +kernel
theorem dX8_feed_21 : decode cX8_feed 21 = .ok (.invokevirtual 60, 3) := by decide +kernel
theorem dX8_feed_24 : decode cX8_feed 24 = .ok (.aload_n 0, 1) := by decide +kernel
theorem dX8_feed_25 : decode cX8_feed 25 = .ok (.iload_n 3, 1) := by decide +kernel
theorem dX8_feed_26 : decode cX8_feed 26 = .ok (.invokevirtual 60, 3) := by decide +kernel
theorem dX8_feed_29 : decode cX8_feed 29 = .ok (.aload_n 0, 1) := by decide +kernel
theorem dX8_feed_30 : decode cX8_feed 30 = .ok (.iload 4, 2) := by decide +kernel
theorem dX8_feed_32 : decode cX8_feed 32 = .ok (.invokevirtual 60, 3) := by decide +kernel
theorem dX8_feed_35 : decode cX8_feed 35 = .ok (.aload_n 0, 1) := by decide +kernel
theorem dX8_feed_36 : decode cX8_feed 36 = .ok (.iload 5, 2) := by decide +kernel
theorem dX8_feed_38 : decode cX8_feed 38 = .ok (.invokevirtual 60, 3) := by decide +kernel
theorem dX8_feed_41 : decode cX8_feed 41 = .ok (.aload_n 0, 1) := by decide +kernel
theorem dX8_feed_42 : decode cX8_feed 42 = .ok (.getfield 57, 3) := by decide +kernel
theorem dX8_feed_45 : decode cX8_feed 45 = .ok (.ireturn, 1) := by decide +kernel
theorem dX8_feedWord_0 : decode cX8_feedWord 0 = .ok (.bipush 24, 2) := by decide +kernel
theorem dX8_feedWord_2 : decode cX8_feedWord 2 = .ok (.istore_n 2, 1) := by decide +kernel
theorem dX8_feedWord_3 : decode cX8_feedWord 3 = .ok (.iload_n 2, 1) := by decide +kernel
theorem dX8_feedWord_4 : decode cX8_feedWord 4 = .ok (.ifCond .lt 41, 3) := by decide +kernel
theorem dX8_feedWord_7 : decode cX8_feedWord 7 = .ok (.aload_n 0, 1) := by decide +kernel
theorem dX8_feedWord_8 : decode cX8_feedWord 8 = .ok (.getfield 57, 3) := by decide +kernel
theorem dX8_feedWord_11 : decode cX8_feedWord 11 = .ok (.bipush 120, 2) := by decide +kernel
theorem dX8_feedWord_13 : decode cX8_feedWord 13 = .ok (.if_icmp .ge 32, 3) := by decide +kernel
theorem dX8_feedWord_16 : decode cX8_feedWord 16 = .ok (.aload_n 0, 1) := by decide +kernel
theorem dX8_feedWord_17 : decode cX8_feedWord 17 = .ok (.getfield 9, 3) := by decide +kernel
theorem dX8_feedWord_20 : decode cX8_feedWord 20 = .ok (.aload_n 0, 1) := by decide +kernel
theorem dX8_feedWord_21 : decode cX8_feedWord 21 = .ok (.dup, 1) := by decide +kernel
theorem dX8_feedWord_22 : decode cX8_feedWord 22 = .ok (.getfield 57, 3) := by decide +kernel
theorem dX8_feedWord_25 : decode cX8_feedWord 25 = .ok (.dup_x1, 1) := by decide +kernel
theorem dX8_feedWord_26 : decode cX8_feedWord 26 = .ok (.iconst 1, 1) := by decide +kernel
theorem dX8_feedWord_27 : decode cX8_feedWord 27 = .ok (.iadd, 1) := by decide +kernel
theorem dX8_feedWord_28 : decode cX8_feedWord 28 = .ok (.putfield 57, 3) := by decide +kernel
theorem dX8_feedWord_31 : decode cX8_feedWord 31 = .ok (.iload_n 1, 1) := by decide +kernel
theorem dX8_feedWord_32 : decode cX8_feedWord 32 = .ok (.iload_n 2, 1) := by decide +kernel
theorem dX8_feedWord_33 : decode cX8_feedWord 33 = .ok (.ishr, 1) := by decide +kernel
theorem dX8_feedWord_34 : decode cX8_feedWord 34 = .ok (.sipush 255, 3) := by decide +kernel
theorem dX8_feedWord_37 : decode cX8_feedWord 37 = .ok (.iand, 1) := by decide +kernel
theorem dX8_feedWord_38 : decode cX8_feedWord 38 = .ok (.iastore, 1) := by decide +kernel
theorem dX8_feedWord_39 : decode cX8_feedWord 39 = .ok (.iinc 2 (-8), 3) := by decide +kernel
theorem dX8_feedWord_42 : decode cX8_feedWord 42 = .ok (.goto (-39), 3) := by decide +kernel
theorem dX8_feedWord_45 : decode cX8_feedWord 45 = .ok (.return_, 1) := by decide +kernel
theorem dX8_end_0 : decode cX8_end 0 = .ok (.iload_n 1, 1) := by decide +kernel
theorem dX8_end_1 : decode cX8_end 1 = .ok (.ifCond .lt 11, 3) := by decide +kernel
theorem dX8_end_4 : decode cX8_end 4 = .ok (.iload_n 1, 1) := by decide +kernel
theorem dX8_end_5 : decode cX8_end 5 = .ok (.aload_n 0, 1) := by decide +kernel
theorem dX8_end_6 : decode cX8_end 6 = .ok (.getfield 57, 3) := by decide +kernel
theorem dX8_end_9 : decode cX8_end 9 = .ok (.if_icmp .le 5, 3) := by decide +kernel
theorem dX8_end_12 : decode cX8_end 12 = .ok (.iconst (-1), 1) := by decide +kernel
theorem dX8_end_13 : decode cX8_end 13 = .ok (.ireturn, 1) := by decide +kernel
theorem dX8_end_14 : decode cX8_end 14 = .ok (.aload_n 0, 1) := by decide +kernel
theorem dX8_end_15 : decode cX8_end 15 = .ok (.iload_n 1, 1) := by decide +kernel
theorem dX8_end_16 : decode cX8_end 16 = .ok (.putfield 57, 3) := by decide +kernel
theorem dX8_end_19 : decode cX8_end 19 = .ok (.iload_n 1, 1) := by decide +kernel
theorem dX8_end_20 : decode cX8_end 20 = .ok (.ireturn, 1) := by decide +kernel
theorem dX8_send_0 : decode cX8_send 0 = .ok (.aload_n 0, 1) := by decide +kernel
theorem dX8_send_1 : decode cX8_send 1 = .ok (.iload_n 1, 1) := by decide +kernel
theorem dX8_send_2 : decode cX8_send 2 = .ok (.iload_n 2, 1) := by decide +kernel
theorem dX8_send_3 : decode cX8_send 3 = .ok (.invokevirtual 63, 3) := by decide +kernel
theorem dX8_send_6 : decode cX8_send 6 = .ok (.ifCond .eq 10, 3) := by decide +kernel
theorem dX8_send_9 : decode cX8_send 9 = .ok (.aload_n 0, 1) := by decide +kernel
theorem dX8_send_10 : decode cX8_send 10 = .ok (.getfield 57, 3) := by decide +kernel
theorem dX8_send_13 : decode cX8_send 13 = .ok (.ifCond .ne 5, 3) := by decide +kernel
theorem dX8_send_16 : decode cX8_send 16 = .ok (.iconst (-1), 1) := by decide +kernel
theorem dX8_send_17 : decode cX8_send 17 = .ok (.ireturn, 1) := by decide +kernel
theorem dX8_send_18 : decode cX8_send 18 = .ok (.aload_n 0, 1) := by decide +kernel
theorem dX8_send_19 : decode cX8_send 19 = .ok (.getfield 36, 3) := by decide +kernel
theorem dX8_send_22 : decode cX8_send 22 = .ok (.aload_n 0, 1) := by decide +kernel
theorem dX8_send_23 : decode cX8_send 23 = .ok (.iload_n 1, 1) := by decide +kernel
theorem dX8_send_24 : decode cX8_send 24 = .ok (.iload_n 2, 1) := by decide +kernel
theorem dX8_send_25 : decode cX8_send 25 = .ok (.invokevirtual 67, 3) := by decide +kernel
theorem dX8_send_28 : decode cX8_send 28 = .ok (.aaload, 1) := by decide +kernel
theorem dX8_send_29 : decode cX8_send 29 = .ok (.getfield 71, 3) := by decide +kernel
theorem dX8_send_32 : decode cX8_send 32 = .ok (.aload_n 0, 1) := by decide +kernel
theorem dX8_send_33 : decode cX8_send 33 = .ok (.getfield 9, 3) := by decide +kernel
theorem dX8_send_36 : decode cX8_send 36 = .ok (.aload_n 0, 1) := by decide +kernel
theorem dX8_send_37 : decode cX8_send 37 = .ok (.getfield 57, 3) := by decide +kernel
theorem dX8_send_40 : decode cX8_send 40 = .ok (.invokevirtual 75, 3) := by decide +kernel
theorem dX8_send_43 : decode cX8_send 43 = .ok (.istore_n 3, 1) := by decide +kernel
theorem dX8_send_44 : decode cX8_send 44 = .ok (.iload_n 3, 1) := by decide +kernel
theorem dX8_send_45 : decode cX8_send 45 = .ok (.iconst (-1), 1) := by decide +kernel
theorem dX8_send_46 : decode cX8_send 46 = .ok (.if_icmp .eq 8, 3) := by decide +kernel
theorem dX8_send_49 : decode cX8_send 49 = .ok (.aload_n 0, 1) := by decide +kernel
theorem dX8_send_50 : decode cX8_send 50 = .ok (.iconst 0, 1) := by decide +kernel
theorem dX8_send_51 : decode cX8_send 51 = .ok (.putfield 57, 3) := by decide +kernel
theorem dX8_send_54 : decode cX8_send 54 = .ok (.iload_n 3, 1) := by decide +kernel
theorem dX8_send_55 : decode cX8_send 55 = .ok (.ireturn, 1) := by decide +kernel
theorem dX8_rate_0 : decode cX8_rate 0 = .ok (.aload_n 0, 1) := by decide +kernel
theorem dX8_rate_1 : decode cX8_rate 1 = .ok (.iconst 0, 1) := by decide +kernel
theorem dX8_rate_2 : decode cX8_rate 2 = .ok (.iload_n 1, 1) := by decide +kernel
theorem dX8_rate_3 : decode cX8_rate 3 = .ok (.invokevirtual 63, 3) := by decide +kernel
theorem dX8_rate_6 : decode cX8_rate 6 = .ok (.ifCond .eq 14, 3) := by decide +kernel
theorem dX8_rate_9 : decode cX8_rate 9 = .ok (.iload_n 2, 1) := by decide +kernel
theorem dX8_rate_10 : decode cX8_rate 10 = .ok (.ifCond .lt 10, 3) := by decide +kernel
theorem dX8_rate_13 : decode cX8_rate 13 = .ok (.iload_n 2, 1) := by decide +kernel
theorem dX8_rate_14 : decode cX8_rate 14 = .ok (.sipush 200, 3) := by decide +kernel
theorem dX8_rate_17 : decode cX8_rate 17 = .ok (.if_icmp .le 5, 3) := by decide +kernel
theorem dX8_rate_20 : decode cX8_rate 20 = .ok (.iconst 0, 1) := by decide +kernel
theorem dX8_rate_21 : decode cX8_rate 21 = .ok (.ireturn, 1) := by decide +kernel
theorem dX8_rate_22 : decode cX8_rate 22 = .ok (.aload_n 0, 1) := by decide +kernel
theorem dX8_rate_23 : decode cX8_rate 23 = .ok (.getfield 36, 3) := by decide +kernel
theorem dX8_rate_26 : decode cX8_rate 26 = .ok (.aload_n 0, 1) := by decide +kernel
theorem dX8_rate_27 : decode cX8_rate 27 = .ok (.iconst 0, 1) := by decide +kernel
theorem dX8_rate_28 : decode cX8_rate 28 = .ok (.iload_n 1, 1) := by decide +kernel
theorem dX8_rate_29 : decode cX8_rate 29 = .ok (.invokevirtual 67, 3) := by decide +kernel
theorem dX8_rate_32 : decode cX8_rate 32 = .ok (.aaload, 1) := by decide +kernel
theorem dX8_rate_33 : decode cX8_rate 33 = .ok (.iload_n 2, 1) := by decide +kernel
theorem dX8_rate_34 : decode cX8_rate 34 = .ok (.putfield 81, 3) := by decide +kernel
theorem dX8_rate_37 : decode cX8_rate 37 = .ok (.aload_n 0, 1) := by decide +kernel
theorem dX8_rate_38 : decode cX8_rate 38 = .ok (.getfield 36, 3) := by decide +kernel
theorem dX8_rate_41 : decode cX8_rate 41 = .ok (.aload_n 0, 1) := by decide +kernel
theorem dX8_rate_42 : decode cX8_rate 42 = .ok (.iconst 1, 1) := by decide +kernel
theorem dX8_rate_43 : decode cX8_rate 43 = .ok (.iload_n 1, 1) := by decide +kernel
theorem dX8_rate_44 : decode cX8_rate 44 = .ok (.invokevirtual 67, 3) := by decide +kernel
theorem dX8_rate_47 : decode cX8_rate 47 = .ok (.aaload, 1) := by decide +kernel
theorem dX8_rate_48 : decode cX8_rate 48 = .ok (.iload_n 2, 1) := by decide +kernel
theorem dX8_rate_49 : decode cX8_rate 49 = .ok (.putfield 81, 3) := by decide +kernel
theorem dX8_rate_52 : decode cX8_rate 52 = .ok (.iconst 1, 1) := by decide +kernel
theorem dX8_rate_53 : decode cX8_rate 53 = .ok (.ireturn, 1) := by decide +kernel
theorem dX8_tick_0 : decode cX8_tick 0 = .ok (.iload_n 1, 1) := by decide +kernel
theorem dX8_tick_1 : decode cX8_tick 1 = .ok (.ifCond .lt 21, 3) := by decide +kernel
theorem dX8_tick_4 : decode cX8_tick 4 = .ok (.iload_n 1, 1) := by decide +kernel
theorem dX8_tick_5 : decode cX8_tick 5 = .ok (.sipush 250, 3) := by decide +kernel
theorem dX8_tick_8 : decode cX8_tick 8 = .ok (.if_icmp .gt 14, 3) := by decide +kernel
theorem dX8_tick_11 : decode cX8_tick 11 = .ok (.iload_n 2, 1) := by decide +kernel
theorem dX8_tick_12 : decode cX8_tick 12 = .ok (.ifCond .lt 10, 3) := by decide +kernel
theorem dX8_tick_15 : decode cX8_tick 15 = .ok (.iload_n 2, 1) := by decide +kernel
theorem dX8_tick_16 : decode cX8_tick 16 = .ok (.sipush 250, 3) := by decide +kernel
theorem dX8_tick_19 : decode cX8_tick 19 = .ok (.if_icmp .le 5, 3) := by decide +kernel
theorem dX8_tick_22 : decode cX8_tick 22 = .ok (.iconst (-1), 1) := by decide +kernel
theorem dX8_tick_23 : decode cX8_tick 23 = .ok (.ireturn, 1) := by decide +kernel
theorem dX8_tick_24 : decode cX8_tick 24 = .ok (.aload_n 0, 1) := by decide +kernel
theorem dX8_tick_25 : decode cX8_tick 25 = .ok (.dup, 1) := by decide +kernel
theorem dX8_tick_26 : decode cX8_tick 26 = .ok (.getfield 84, 3) := by decide +kernel
theorem dX8_tick_29 : decode cX8_tick 29 = .ok (.iconst 1, 1) := by decide +kernel
theorem dX8_tick_30 : decode cX8_tick 30 = .ok (.iadd, 1) := by decide +kernel
theorem dX8_tick_31 : decode cX8_tick 31 = .ok (.putfield 84, 3) := by decide +kernel
theorem dX8_tick_34 : decode cX8_tick 34 = .ok (.iconst 0, 1) := by decide +kernel
theorem dX8_tick_35 : decode cX8_tick 35 = .ok (.istore 4, 2) := by decide +kernel
theorem dX8_tick_37 : decode cX8_tick 37 = .ok (.iload 4, 2) := by decide +kernel
theorem dX8_tick_39 : decode cX8_tick 39 = .ok (.aload_n 0, 1) := by decide +kernel
theorem dX8_tick_40 : decode cX8_tick 40 = .ok (.getfield 36, 3) := by decide +kernel
theorem dX8_tick_43 : decode cX8_tick 43 = .ok (.arraylength, 1) := by decide +kernel
theorem dX8_tick_44 : decode cX8_tick 44 = .ok (.if_icmp .ge 29, 3) := by decide +kernel
theorem dX8_tick_47 : decode cX8_tick 47 = .ok (.aload_n 0, 1) := by decide +kernel
theorem dX8_tick_48 : decode cX8_tick 48 = .ok (.getfield 36, 3) := by decide +kernel
theorem dX8_tick_51 : decode cX8_tick 51 = .ok (.iload 4, 2) := by decide +kernel
theorem dX8_tick_53 : decode cX8_tick 53 = .ok (.aaload, 1) := by decide +kernel
theorem dX8_tick_54 : decode cX8_tick 54 = .ok (.invokevirtual 87, 3) := by decide +kernel
theorem dX8_tick_57 : decode cX8_tick 57 = .ok (.aload_n 0, 1) := by decide +kernel
theorem dX8_tick_58 : decode cX8_tick 58 = .ok (.getfield 42, 3) := by decide +kernel
theorem dX8_tick_61 : decode cX8_tick 61 = .ok (.iload 4, 2) := by decide +kernel
theorem dX8_tick_63 : decode cX8_tick 63 = .ok (.aaload, 1) := by decide +kernel
theorem dX8_tick_64 : decode cX8_tick 64 = .ok (.invokevirtual 90, 3) := by decide +kernel
theorem dX8_tick_67 : decode cX8_tick 67 = .ok (.iinc 4 1, 3) := by decide +kernel
theorem dX8_tick_70 : decode cX8_tick 70 = .ok (.goto (-33), 3) := by decide +kernel
theorem dX8_tick_73 : decode cX8_tick 73 = .ok (.iconst 0, 1) := by decide +kernel
theorem dX8_tick_74 : decode cX8_tick 74 = .ok (.istore 4, 2) := by decide +kernel
theorem dX8_tick_76 : decode cX8_tick 76 = .ok (.iload 4, 2) := by decide +kernel
theorem dX8_tick_78 : decode cX8_tick 78 = .ok (.aload_n 0, 1) := by decide +kernel
theorem dX8_tick_79 : decode cX8_tick 79 = .ok (.getfield 36, 3) := by decide +kernel
theorem dX8_tick_82 : decode cX8_tick 82 = .ok (.arraylength, 1) := by decide +kernel
theorem dX8_tick_83 : decode cX8_tick 83 = .ok (.if_icmp .ge 19, 3) := by decide +kernel
theorem dX8_tick_86 : decode cX8_tick 86 = .ok (.aload_n 0, 1) := by decide +kernel
theorem dX8_tick_87 : decode cX8_tick 87 = .ok (.getfield 36, 3) := by decide +kernel
theorem dX8_tick_90 : decode cX8_tick 90 = .ok (.iload 4, 2) := by decide +kernel
theorem dX8_tick_92 : decode cX8_tick 92 = .ok (.aaload, 1) := by decide +kernel
theorem dX8_tick_93 : decode cX8_tick 93 = .ok (.invokevirtual 91, 3) := by decide +kernel
theorem dX8_tick_96 : decode cX8_tick 96 = .ok (.iinc 4 1, 3) := by decide +kernel
theorem dX8_tick_99 : decode cX8_tick 99 = .ok (.goto (-23), 3) := by decide +kernel
theorem dX8_tick_102 : decode cX8_tick 102 = .ok (.iconst 0, 1) := by decide +kernel
theorem dX8_tick_103 : decode cX8_tick 103 = .ok (.istore 4, 2) := by decide +kernel
theorem dX8_tick_105 : decode cX8_tick 105 = .ok (.iconst 0, 1) := by decide +kernel
theorem dX8_tick_106 : decode cX8_tick 106 = .ok (.istore 5, 2) := by decide +kernel
theorem dX8_tick_108 : decode cX8_tick 108 = .ok (.iload 5, 2) := by decide +kernel
theorem dX8_tick_110 : decode cX8_tick 110 = .ok (.iconst 2, 1) := by decide +kernel
theorem dX8_tick_111 : decode cX8_tick 111 = .ok (.if_icmp .ge 153, 3) := by decide +kernel
theorem dX8_tick_114 : decode cX8_tick 114 = .ok (.aload_n 0, 1) := by decide +kernel
theorem dX8_tick_115 : decode cX8_tick 115 = .ok (.getfield 52, 3) := by decide +kernel
theorem dX8_tick_118 : decode cX8_tick 118 = .ok (.iload 5, 2) := by decide +kernel
theorem dX8_tick_120 : decode cX8_tick 120 = .ok (.iconst 4, 1) := by decide +kernel
theorem dX8_tick_121 : decode cX8_tick 121 = .ok (.imul, 1) := by decide +kernel
theorem dX8_tick_122 : decode cX8_tick 122 = .ok (.aload_n 0, 1) := by decide +kernel
theorem dX8_tick_123 : decode cX8_tick 123 = .ok (.getfield 84, 3) := by decide +kernel
theorem dX8_tick_126 : decode cX8_tick 126 = .ok (.iconst 3, 1) := by decide +kernel
theorem dX8_tick_127 : decode cX8_tick 127 = .ok (.iand, 1) := by decide +kernel
theorem dX8_tick_128 : decode cX8_tick 128 = .ok (.iadd, 1) := by decide +kernel
theorem dX8_tick_129 : decode cX8_tick 129 = .ok (.aaload, 1) := by decide +kernel
theorem dX8_tick_130 : decode cX8_tick 130 = .ok (.astore 6, 2) := by decide +kernel
theorem dX8_tick_132 : decode cX8_tick 132 = .ok (.aload 6, 2) := by decide +kernel
theorem dX8_tick_134 : decode cX8_tick 134 = .ok (.getfield 94, 3) := by decide +kernel
theorem dX8_tick_137 : decode cX8_tick 137 = .ok (.ifCond .ne 21, 3) := by decide +kernel
theorem dX8_tick_140 : decode cX8_tick 140 = .ok (.aload_n 0, 1) := by decide +kernel
theorem dX8_tick_141 : decode cX8_tick 141 = .ok (.iload 5, 2) := by decide +kernel
theorem dX8_tick_143 : decode cX8_tick 143 = .ok (.aload 6, 2) := by decide +kernel
theorem dX8_tick_145 : decode cX8_tick 145 = .ok (.iload 5, 2) := by decide +kernel
theorem dX8_tick_147 : decode cX8_tick 147 = .ok (.ifCond .ne 7, 3) := by decide +kernel
theorem dX8_tick_150 : decode cX8_tick 150 = .ok (.iload_n 1, 1) := by decide +kernel
theorem dX8_tick_151 : decode cX8_tick 151 = .ok (.goto 4, 3) := by decide +kernel
theorem dX8_tick_154 : decode cX8_tick 154 = .ok (.iload_n 2, 1) := by decide +kernel
theorem dX8_tick_155 : decode cX8_tick 155 = .ok (.invokevirtual 97, 3) := by decide +kernel
theorem dX8_tick_158 : decode cX8_tick 158 = .ok (.aload_n 0, 1) := by decide +kernel
theorem dX8_tick_159 : decode cX8_tick 159 = .ok (.getfield 13, 3) := by decide +kernel
theorem dX8_tick_162 : decode cX8_tick 162 = .ok (.iload 5, 2) := by decide +kernel
theorem dX8_tick_164 : decode cX8_tick 164 = .ok (.aload 6, 2) := by decide +kernel
theorem dX8_tick_166 : decode cX8_tick 166 = .ok (.getfield 101, 3) := by decide +kernel
theorem dX8_tick_169 : decode cX8_tick 169 = .ok (.iastore, 1) := by decide +kernel
theorem dX8_tick_170 : decode cX8_tick 170 = .ok (.aload 6, 2) := by decide +kernel
theorem dX8_tick_172 : decode cX8_tick 172 = .ok (.getfield 101, 3) := by decide +kernel
theorem dX8_tick_175 : decode cX8_tick 175 = .ok (.ifCond .le 83, 3) := by decide +kernel
theorem dX8_tick_178 : decode cX8_tick 178 = .ok (.iload 4, 2) := by decide +kernel
theorem dX8_tick_180 : decode cX8_tick 180 = .ok (.iconst 1, 1) := by decide +kernel
theorem dX8_tick_181 : decode cX8_tick 181 = .ok (.iload 5, 2) := by decide +kernel
theorem dX8_tick_183 : decode cX8_tick 183 = .ok (.ishl, 1) := by decide +kernel
theorem dX8_tick_184 : decode cX8_tick 184 = .ok (.ior, 1) := by decide +kernel
theorem dX8_tick_185 : decode cX8_tick 185 = .ok (.istore 4, 2) := by decide +kernel
theorem dX8_tick_187 : decode cX8_tick 187 = .ok (.iload_n 3, 1) := by decide +kernel
theorem dX8_tick_188 : decode cX8_tick 188 = .ok (.iload 5, 2) := by decide +kernel
theorem dX8_tick_190 : decode cX8_tick 190 = .ok (.ishr, 1) := by decide +kernel
theorem dX8_tick_191 : decode cX8_tick 191 = .ok (.iconst 1, 1) := by decide +kernel
theorem dX8_tick_192 : decode cX8_tick 192 = .ok (.iand, 1) := by decide +kernel
theorem dX8_tick_193 : decode cX8_tick 193 = .ok (.ifCond .eq 7, 3) := by decide +kernel
theorem dX8_tick_196 : decode cX8_tick 196 = .ok (.iconst 1, 1) := by decide +kernel
theorem dX8_tick_197 : decode cX8_tick 197 = .ok (.goto 4, 3) := by decide +kernel
theorem dX8_tick_200 : decode cX8_tick 200 = .ok (.iconst 0, 1) := by decide +kernel
theorem dX8_tick_201 : decode cX8_tick 201 = .ok (.istore 7, 2) := by decide +kernel
theorem dX8_tick_203 : decode cX8_tick 203 = .ok (.aload_n 0, 1) := by decide +kernel
theorem dX8_tick_204 : decode cX8_tick 204 = .ok (.aload 6, 2) := by decide +kernel
theorem dX8_tick_206 : decode cX8_tick 206 = .ok (.iload 7, 2) := by decide +kernel
theorem dX8_tick_208 : decode cX8_tick 208 = .ok (.invokevirtual 104, 3) := by decide +kernel
theorem dX8_tick_211 : decode cX8_tick 211 = .ok (.ifCond .eq 25, 3) := by decide +kernel
theorem dX8_tick_214 : decode cX8_tick 214 = .ok (.iload 4, 2) := by decide +kernel
theorem dX8_tick_216 : decode cX8_tick 216 = .ok (.iconst 4, 1) := by decide +kernel
theorem dX8_tick_217 : decode cX8_tick 217 = .ok (.iload 5, 2) := by decide +kernel
theorem dX8_tick_219 : decode cX8_tick 219 = .ok (.ishl, 1) := by decide +kernel
theorem dX8_tick_220 : decode cX8_tick 220 = .ok (.ior, 1) := by decide +kernel
theorem dX8_tick_221 : decode cX8_tick 221 = .ok (.istore 4, 2) := by decide +kernel
theorem dX8_tick_223 : decode cX8_tick 223 = .ok (.aload_n 0, 1) := by decide +kernel
theorem dX8_tick_224 : decode cX8_tick 224 = .ok (.iconst 1, 1) := by decide +kernel
theorem dX8_tick_225 : decode cX8_tick 225 = .ok (.iload 5, 2) := by decide +kernel
theorem dX8_tick_227 : decode cX8_tick 227 = .ok (.isub, 1) := by decide +kernel
theorem dX8_tick_228 : decode cX8_tick 228 = .ok (.aload 6, 2) := by decide +kernel
theorem dX8_tick_230 : decode cX8_tick 230 = .ok (.getfield 108, 3) := by decide +kernel
theorem dX8_tick_233 : decode cX8_tick 233 = .ok (.invokevirtual 112, 3) := by decide +kernel
theorem dX8_tick_236 : decode cX8_tick 236 = .ok (.aload_n 0, 1) := by decide +kernel
theorem dX8_tick_237 : decode cX8_tick 237 = .ok (.aload 6, 2) := by decide +kernel
theorem dX8_tick_239 : decode cX8_tick 239 = .ok (.iload_n 3, 1) := by decide +kernel
theorem dX8_tick_240 : decode cX8_tick 240 = .ok (.iload 5, 2) := by decide +kernel
theorem dX8_tick_242 : decode cX8_tick 242 = .ok (.iconst 2, 1) := by decide +kernel
theorem dX8_tick_243 : decode cX8_tick 243 = .ok (.iadd, 1) := by decide +kernel
theorem dX8_tick_244 : decode cX8_tick 244 = .ok (.ishr, 1) := by decide +kernel
theorem dX8_tick_245 : decode cX8_tick 245 = .ok (.iconst 1, 1) := by decide +kernel
theorem dX8_tick_246 : decode cX8_tick 246 = .ok (.iand, 1) := by decide +kernel
theorem dX8_tick_247 : decode cX8_tick 247 = .ok (.ifCond .eq 7, 3) := by decide +kernel
theorem dX8_tick_250 : decode cX8_tick 250 = .ok (.iconst 1, 1) := by decide +kernel
theorem dX8_tick_251 : decode cX8_tick 251 = .ok (.goto 4, 3) := by decide +kernel
theorem dX8_tick_254 : decode cX8_tick 254 = .ok (.iconst 0, 1) := by decide +kernel
theorem dX8_tick_255 : decode cX8_tick 255 = .ok (.invokevirtual 116, 3) := by decide +kernel
theorem dX8_tick_258 : decode cX8_tick 258 = .ok (.iinc 5 1, 3) := by decide +kernel
theorem dX8_tick_261 : decode cX8_tick 261 = .ok (.goto (-153), 3) := by decide +kernel
theorem dX8_tick_264 : decode cX8_tick 264 = .ok (.iload 4, 2) := by decide +kernel
theorem dX8_tick_266 : decode cX8_tick 266 = .ok (.ireturn, 1) := by decide +kernel
theorem dX8_renew_0 : decode cX8_renew 0 = .ok (.iconst 0, 1) := by decide +kernel
theorem dX8_renew_1 : decode cX8_renew 1 = .ok (.istore_n 1, 1) := by decide +kernel
theorem dX8_renew_2 : decode cX8_renew 2 = .ok (.iload_n 1, 1) := by decide +kernel
theorem dX8_renew_3 : decode cX8_renew 3 = .ok (.aload_n 0, 1) := by decide +kernel
theorem dX8_renew_4 : decode cX8_renew 4 = .ok (.getfield 42, 3) := by decide +kernel
theorem dX8_renew_7 : decode cX8_renew 7 = .ok (.arraylength, 1) := by decide +kernel
theorem dX8_renew_8 : decode cX8_renew 8 = .ok (.if_icmp .ge 23, 3) := by decide +kernel
theorem dX8_renew_11 : decode cX8_renew 11 = .ok (.aload_n 0, 1) := by decide +kernel
theorem dX8_renew_12 : decode cX8_renew 12 = .ok (.iload_n 1, 1) := by decide +kernel
theorem dX8_renew_13 : decode cX8_renew 13 = .ok (.invokevirtual 120, 3) := by decide +kernel
theorem dX8_renew_16 : decode cX8_renew 16 = .ok (.aload_n 0, 1) := by decide +kernel
theorem dX8_renew_17 : decode cX8_renew 17 = .ok (.getfield 42, 3) := by decide +kernel
theorem dX8_renew_20 : decode cX8_renew 20 = .ok (.iload_n 1, 1) := by decide +kernel
theorem dX8_renew_21 : decode cX8_renew 21 = .ok (.aaload, 1) := by decide +kernel
theorem dX8_renew_22 : decode cX8_renew 22 = .ok (.invokevirtual 123, 3) := by decide +kernel
theorem dX8_renew_25 : decode cX8_renew 25 = .ok (.iinc 1 1, 3) := by decide +kernel
theorem dX8_renew_28 : decode cX8_renew 28 = .ok (.goto (-26), 3) := by decide +kernel
theorem dX8_renew_31 : decode cX8_renew 31 = .ok (.iconst 0, 1) := by decide +kernel
theorem dX8_renew_32 : decode cX8_renew 32 = .ok (.istore_n 1, 1) := by decide +kernel
theorem dX8_renew_33 : decode cX8_renew 33 = .ok (.iload_n 1, 1) := by decide +kernel
theorem dX8_renew_34 : decode cX8_renew 34 = .ok (.aload_n 0, 1) := by decide +kernel
theorem dX8_renew_35 : decode cX8_renew 35 = .ok (.getfield 36, 3) := by decide +kernel
theorem dX8_renew_38 : decode cX8_renew 38 = .ok (.arraylength, 1) := by decide +kernel
theorem dX8_renew_39 : decode cX8_renew 39 = .ok (.if_icmp .ge 18, 3) := by decide +kernel
theorem dX8_renew_42 : decode cX8_renew 42 = .ok (.aload_n 0, 1) := by decide +kernel
theorem dX8_renew_43 : decode cX8_renew 43 = .ok (.getfield 36, 3) := by decide +kernel
theorem dX8_renew_46 : decode cX8_renew 46 = .ok (.iload_n 1, 1) := by decide +kernel
theorem dX8_renew_47 : decode cX8_renew 47 = .ok (.aaload, 1) := by decide +kernel
theorem dX8_renew_48 : decode cX8_renew 48 = .ok (.invokevirtual 126, 3) := by decide +kernel
theorem dX8_renew_51 : decode cX8_renew 51 = .ok (.iinc 1 1, 3) := by decide +kernel
theorem dX8_renew_54 : decode cX8_renew 54 = .ok (.goto (-21), 3) := by decide +kernel
theorem dX8_renew_57 : decode cX8_renew 57 = .ok (.iconst 0, 1) := by decide +kernel
theorem dX8_renew_58 : decode cX8_renew 58 = .ok (.istore_n 1, 1) := by decide +kernel
theorem dX8_renew_59 : decode cX8_renew 59 = .ok (.iload_n 1, 1) := by decide +kernel
theorem dX8_renew_60 : decode cX8_renew 60 = .ok (.aload_n 0, 1) := by decide +kernel
theorem dX8_renew_61 : decode cX8_renew 61 = .ok (.getfield 52, 3) := by decide +kernel
theorem dX8_renew_64 : decode cX8_renew 64 = .ok (.arraylength, 1) := by decide +kernel
theorem dX8_renew_65 : decode cX8_renew 65 = .ok (.if_icmp .ge 18, 3) := by decide +kernel
theorem dX8_renew_68 : decode cX8_renew 68 = .ok (.aload_n 0, 1) := by decide +kernel
theorem dX8_renew_69 : decode cX8_renew 69 = .ok (.getfield 52, 3) := by decide +kernel
theorem dX8_renew_72 : decode cX8_renew 72 = .ok (.iload_n 1, 1) := by decide +kernel
theorem dX8_renew_73 : decode cX8_renew 73 = .ok (.aaload, 1) := by decide +kernel
theorem dX8_renew_74 : decode cX8_renew 74 = .ok (.invokevirtual 127, 3) := by decide +kernel
theorem dX8_renew_77 : decode cX8_renew 77 = .ok (.iinc 1 1, 3) := by decide +kernel
theorem dX8_renew_80 : decode cX8_renew 80 = .ok (.goto (-21), 3) := by decide +kernel
theorem dX8_renew_83 : decode cX8_renew 83 = .ok (.aload_n 0, 1) := by decide +kernel
theorem dX8_renew_84 : decode cX8_renew 84 = .ok (.dup, 1) := by decide +kernel
theorem dX8_renew_85 : decode cX8_renew 85 = .ok (.getfield 130, 3) := by decide +kernel
theorem dX8_renew_88 : decode cX8_renew 88 = .ok (.iconst 1, 1) := by decide +kernel
theorem dX8_renew_89 : decode cX8_renew 89 = .ok (.iadd, 1) := by decide +kernel
theorem dX8_renew_90 : decode cX8_renew 90 = .ok (.putfield 130, 3) := by decide +kernel
theorem dX8_renew_93 : decode cX8_renew 93 = .ok (.aload_n 0, 1) := by decide +kernel
theorem dX8_renew_94 : decode cX8_renew 94 = .ok (.getfield 26, 3) := by decide +kernel
theorem dX8_renew_97 : decode cX8_renew 97 = .ok (.aload_n 0, 1) := by decide +kernel
theorem dX8_renew_98 : decode cX8_renew 98 = .ok (.getfield 20, 3) := by decide +kernel
theorem dX8_renew_101 : decode cX8_renew 101 = .ok (.aload_n 0, 1) := by decide +kernel
theorem dX8_renew_102 : decode cX8_renew 102 = .ok (.getfield 130, 3) := by decide +kernel
theorem dX8_renew_105 : decode cX8_renew 105 = .ok (.invokevirtual 30, 3) := by decide +kernel
theorem dX8_renew_108 : decode cX8_renew 108 = .ok (.iconst 0, 1) := by decide +kernel
theorem dX8_renew_109 : decode cX8_renew 109 = .ok (.istore_n 1, 1) := by decide +kernel
theorem dX8_renew_110 : decode cX8_renew 110 = .ok (.iload_n 1, 1) := by decide +kernel
theorem dX8_renew_111 : decode cX8_renew 111 = .ok (.aload_n 0, 1) := by decide +kernel
theorem dX8_renew_112 : decode cX8_renew 112 = .ok (.getfield 36, 3) := by decide +kernel
theorem dX8_renew_115 : decode cX8_renew 115 = .ok (.arraylength, 1) := by decide +kernel
theorem dX8_renew_116 : decode cX8_renew 116 = .ok (.if_icmp .ge 30, 3) := by decide +kernel
theorem dX8_renew_119 : decode cX8_renew 119 = .ok (.aload_n 0, 1) := by decide +kernel
theorem dX8_renew_120 : decode cX8_renew 120 = .ok (.getfield 36, 3) := by decide +kernel
theorem dX8_renew_123 : decode cX8_renew 123 = .ok (.iload_n 1, 1) := by decide +kernel
theorem dX8_renew_124 : decode cX8_renew 124 = .ok (.aaload, 1) := by decide +kernel
theorem dX8_renew_125 : decode cX8_renew 125 = .ok (.getfield 71, 3) := by decide +kernel
theorem dX8_renew_128 : decode cX8_renew 128 = .ok (.aload_n 0, 1) := by decide +kernel
theorem dX8_renew_129 : decode cX8_renew 129 = .ok (.getfield 42, 3) := by decide +kernel
theorem dX8_renew_132 : decode cX8_renew 132 = .ok (.iload_n 1, 1) := by decide +kernel
theorem dX8_renew_133 : decode cX8_renew 133 = .ok (.aaload, 1) := by decide +kernel
theorem dX8_renew_134 : decode cX8_renew 134 = .ok (.getfield 133, 3) := by decide +kernel
theorem dX8_renew_137 : decode cX8_renew 137 = .ok (.invokevirtual 137, 3) := by decide +kernel
theorem dX8_renew_140 : decode cX8_renew 140 = .ok (.iinc 1 1, 3) := by decide +kernel
theorem dX8_renew_143 : decode cX8_renew 143 = .ok (.goto (-33), 3) := by decide +kernel
theorem dX8_renew_146 : decode cX8_renew 146 = .ok (.aload_n 0, 1) := by decide +kernel
theorem dX8_renew_147 : decode cX8_renew 147 = .ok (.getfield 130, 3) := by decide +kernel
theorem dX8_renew_150 : decode cX8_renew 150 = .ok (.ireturn, 1) := by decide +kernel
theorem dX8_block_0 : decode cX8_block 0 = .ok (.iload_n 1, 1) := by decide +kernel
theorem dX8_block_1 : decode cX8_block 1 = .ok (.ifCond .lt 17, 3) := by decide +kernel
theorem dX8_block_4 : decode cX8_block 4 = .ok (.iload_n 1, 1) := by decide +kernel
theorem dX8_block_5 : decode cX8_block 5 = .ok (.iconst 1, 1) := by decide +kernel
theorem dX8_block_6 : decode cX8_block 6 = .ok (.if_icmp .gt 12, 3) := by decide +kernel
theorem dX8_block_9 : decode cX8_block 9 = .ok (.aload_n 0, 1) := by decide +kernel
theorem dX8_block_10 : decode cX8_block 10 = .ok (.getfield 13, 3) := by decide +kernel
theorem dX8_block_13 : decode cX8_block 13 = .ok (.iload_n 1, 1) := by decide +kernel
theorem dX8_block_14 : decode cX8_block 14 = .ok (.iaload, 1) := by decide +kernel
theorem dX8_block_15 : decode cX8_block 15 = .ok (.ifCond .ne 5, 3) := by decide +kernel
theorem dX8_block_18 : decode cX8_block 18 = .ok (.iconst (-1), 1) := by decide +kernel
theorem dX8_block_19 : decode cX8_block 19 = .ok (.ireturn, 1) := by decide +kernel
theorem dX8_block_20 : decode cX8_block 20 = .ok (.iload_n 2, 1) := by decide +kernel
theorem dX8_block_21 : decode cX8_block 21 = .ok (.iconst (-1), 1) := by decide +kernel
theorem dX8_block_22 : decode cX8_block 22 = .ok (.if_icmp .ne 10, 3) := by decide +kernel
theorem dX8_block_25 : decode cX8_block 25 = .ok (.aload_n 0, 1) := by decide +kernel
theorem dX8_block_26 : decode cX8_block 26 = .ok (.getfield 13, 3) := by decide +kernel
theorem dX8_block_29 : decode cX8_block 29 = .ok (.iload_n 1, 1) := by decide +kernel
theorem dX8_block_30 : decode cX8_block 30 = .ok (.iaload, 1) := by decide +kernel
theorem dX8_block_31 : decode cX8_block 31 = .ok (.ireturn, 1) := by decide +kernel
theorem dX8_block_32 : decode cX8_block 32 = .ok (.iload_n 2, 1) := by decide +kernel
theorem dX8_block_33 : decode cX8_block 33 = .ok (.ifCond .lt 13, 3) := by decide +kernel
theorem dX8_block_36 : decode cX8_block 36 = .ok (.iload_n 2, 1) := by decide +kernel
theorem dX8_block_37 : decode cX8_block 37 = .ok (.aload_n 0, 1) := by decide +kernel
theorem dX8_block_38 : decode cX8_block 38 = .ok (.getfield 13, 3) := by decide +kernel
theorem dX8_block_41 : decode cX8_block 41 = .ok (.iload_n 1, 1) := by decide +kernel
theorem dX8_block_42 : decode cX8_block 42 = .ok (.iaload, 1) := by decide +kernel
theorem dX8_block_43 : decode cX8_block 43 = .ok (.if_icmp .lt 5, 3) := by decide +kernel
theorem dX8_block_46 : decode cX8_block 46 = .ok (.iconst (-1), 1) := by decide +kernel
theorem dX8_block_47 : decode cX8_block 47 = .ok (.ireturn, 1) := by decide +kernel
theorem dX8_block_48 : decode cX8_block 48 = .ok (.aload_n 0, 1) := by decide +kernel
theorem dX8_block_49 : decode cX8_block 49 = .ok (.getfield 52, 3) := by decide +kernel
theorem dX8_block_52 : decode cX8_block 52 = .ok (.iload_n 1, 1) := by decide +kernel
theorem dX8_block_53 : decode cX8_block 53 = .ok (.iconst 4, 1) := by decide +kernel
theorem dX8_block_54 : decode cX8_block 54 = .ok (.imul, 1) := by decide +kernel
theorem dX8_block_55 : decode cX8_block 55 = .ok (.aload_n 0, 1) := by decide +kernel
theorem dX8_block_56 : decode cX8_block 56 = .ok (.getfield 84, 3) := by decide +kernel
theorem dX8_block_59 : decode cX8_block 59 = .ok (.iconst 3, 1) := by decide +kernel
theorem dX8_block_60 : decode cX8_block 60 = .ok (.iand, 1) := by decide +kernel
theorem dX8_block_61 : decode cX8_block 61 = .ok (.iadd, 1) := by decide +kernel
theorem dX8_block_62 : decode cX8_block 62 = .ok (.aaload, 1) := by decide +kernel
theorem dX8_block_63 : decode cX8_block 63 = .ok (.getfield 108, 3) := by decide +kernel
theorem dX8_block_66 : decode cX8_block 66 = .ok (.iload_n 2, 1) := by decide +kernel
theorem dX8_block_67 : decode cX8_block 67 = .ok (.invokevirtual 141, 3) := by decide +kernel
theorem dX8_block_70 : decode cX8_block 70 = .ok (.ireturn, 1) := by decide +kernel
theorem dX8_sender_0 : decode cX8_sender 0 = .ok (.aload_n 0, 1) := by decide +kernel
theorem dX8_sender_1 : decode cX8_sender 1 = .ok (.iload_n 1, 1) := by decide +kernel
theorem dX8_sender_2 : decode cX8_sender 2 = .ok (.iload_n 2, 1) := by decide +kernel
theorem dX8_sender_3 : decode cX8_sender 3 = .ok (.invokevirtual 63, 3) := by decide +kernel
theorem dX8_sender_6 : decode cX8_sender 6 = .ok (.ifCond .ne 5, 3) := by decide +kernel
theorem dX8_sender_9 : decode cX8_sender 9 = .ok (.iconst (-1), 1) := by decide +kernel
theorem dX8_sender_10 : decode cX8_sender 10 = .ok (.ireturn, 1) := by decide +kernel
theorem dX8_sender_11 : decode cX8_sender 11 = .ok (.aload_n 0, 1) := by decide +kernel
theorem dX8_sender_12 : decode cX8_sender 12 = .ok (.getfield 36, 3) := by decide +kernel
theorem dX8_sender_15 : decode cX8_sender 15 = .ok (.aload_n 0, 1) := by decide +kernel
theorem dX8_sender_16 : decode cX8_sender 16 = .ok (.iload_n 1, 1) := by decide +kernel
theorem dX8_sender_17 : decode cX8_sender 17 = .ok (.iload_n 2, 1) := by decide +kernel
theorem dX8_sender_18 : decode cX8_sender 18 = .ok (.invokevirtual 67, 3) := by decide +kernel
theorem dX8_sender_21 : decode cX8_sender 21 = .ok (.aaload, 1) := by decide +kernel
theorem dX8_sender_22 : decode cX8_sender 22 = .ok (.astore 4, 2) := by decide +kernel
theorem dX8_sender_24 : decode cX8_sender 24 = .ok (.iload_n 3, 1) := by decide +kernel
theorem dX8_sender_25 : decode cX8_sender 25 = .ok (.tableswitch 152 0 11 #[63, 69, 75, 84, 93, 99, 105, 119, 125, 131, 137, 143], 63) := by decide +kernel
theorem dX8_sender_88 : decode cX8_sender 88 = .ok (.aload 4, 2) := by decide +kernel
theorem dX8_sender_90 : decode cX8_sender 90 = .ok (.getfield 147, 3) := by decide +kernel
theorem dX8_sender_93 : decode cX8_sender 93 = .ok (.ireturn, 1) := by decide +kernel
theorem dX8_sender_94 : decode cX8_sender 94 = .ok (.aload 4, 2) := by decide +kernel
theorem dX8_sender_96 : decode cX8_sender 96 = .ok (.getfield 150, 3) := by decide +kernel
theorem dX8_sender_99 : decode cX8_sender 99 = .ok (.ireturn, 1) := by decide +kernel
theorem dX8_sender_100 : decode cX8_sender 100 = .ok (.aload 4, 2) := by decide +kernel
theorem dX8_sender_102 : decode cX8_sender 102 = .ok (.getfield 71, 3) := by decide +kernel
theorem dX8_sender_105 : decode cX8_sender 105 = .ok (.getfield 153, 3) := by decide +kernel
theorem dX8_sender_108 : decode cX8_sender 108 = .ok (.ireturn, 1) := by decide +kernel
theorem dX8_sender_109 : decode cX8_sender 109 = .ok (.aload 4, 2) := by decide +kernel
theorem dX8_sender_111 : decode cX8_sender 111 = .ok (.getfield 71, 3) := by decide +kernel
theorem dX8_sender_114 : decode cX8_sender 114 = .ok (.invokevirtual 156, 3) := by decide +kernel
theorem dX8_sender_117 : decode cX8_sender 117 = .ok (.ireturn, 1) := by decide +kernel
theorem dX8_sender_118 : decode cX8_sender 118 = .ok (.aload 4, 2) := by decide +kernel
theorem dX8_sender_120 : decode cX8_sender 120 = .ok (.getfield 160, 3) := by decide +kernel
theorem dX8_sender_123 : decode cX8_sender 123 = .ok (.ireturn, 1) := by decide +kernel
theorem dX8_sender_124 : decode cX8_sender 124 = .ok (.aload 4, 2) := by decide +kernel
theorem dX8_sender_126 : decode cX8_sender 126 = .ok (.getfield 163, 3) := by decide +kernel
theorem dX8_sender_129 : decode cX8_sender 129 = .ok (.ireturn, 1) := by decide +kernel
theorem dX8_sender_130 : decode cX8_sender 130 = .ok (.aload 4, 2) := by decide +kernel
theorem dX8_sender_132 : decode cX8_sender 132 = .ok (.getfield 166, 3) := by decide +kernel
theorem dX8_sender_135 : decode cX8_sender 135 = .ok (.ifCond .eq 7, 3) := by decide +kernel
theorem dX8_sender_138 : decode cX8_sender 138 = .ok (.iconst 1, 1) := by decide +kernel
theorem dX8_sender_139 : decode cX8_sender 139 = .ok (.goto 4, 3) := by decide +kernel
theorem dX8_sender_142 : decode cX8_sender 142 = .ok (.iconst 0, 1) := by decide +kernel
theorem dX8_sender_143 : decode cX8_sender 143 = .ok (.ireturn, 1) := by decide +kernel
theorem dX8_sender_144 : decode cX8_sender 144 = .ok (.aload 4, 2) := by decide +kernel
theorem dX8_sender_146 : decode cX8_sender 146 = .ok (.getfield 170, 3) := by decide +kernel
theorem dX8_sender_149 : decode cX8_sender 149 = .ok (.ireturn, 1) := by decide +kernel
theorem dX8_sender_150 : decode cX8_sender 150 = .ok (.aload 4, 2) := by decide +kernel
theorem dX8_sender_152 : decode cX8_sender 152 = .ok (.getfield 173, 3) := by decide +kernel
theorem dX8_sender_155 : decode cX8_sender 155 = .ok (.ireturn, 1) := by decide +kernel
theorem dX8_sender_156 : decode cX8_sender 156 = .ok (.aload 4, 2) := by decide +kernel
theorem dX8_sender_158 : decode cX8_sender 158 = .ok (.getfield 176, 3) := by decide +kernel
theorem dX8_sender_161 : decode cX8_sender 161 = .ok (.ireturn, 1) := by decide +kernel
theorem dX8_sender_162 : decode cX8_sender 162 = .ok (.aload 4, 2) := by decide +kernel
theorem dX8_sender_164 : decode cX8_sender 164 = .ok (.getfield 179, 3) := by decide +kernel
theorem dX8_sender_167 : decode cX8_sender 167 = .ok (.ireturn, 1) := by decide +kernel
theorem dX8_sender_168 : decode cX8_sender 168 = .ok (.aload 4, 2) := by decide +kernel
theorem dX8_sender_170 : decode cX8_sender 170 = .ok (.getfield 71, 3) := by decide +kernel
theorem dX8_sender_173 : decode cX8_sender 173 = .ok (.getfield 182, 3) := by decide +kernel
theorem dX8_sender_176 : decode cX8_sender 176 = .ok (.ireturn, 1) := by decide +kernel
theorem dX8_sender_177 : decode cX8_sender 177 = .ok (.iconst (-1), 1) := by decide +kernel
theorem dX8_sender_178 : decode cX8_sender 178 = .ok (.ireturn, 1) := by decide +kernel
theorem dX8_receiver_0 : decode cX8_receiver 0 = .ok (.aload_n 0, 1) := by decide +kernel
theorem dX8_receiver_1 : decode cX8_receiver 1 = .ok (.iload_n 1, 1) := by decide +kernel
theorem dX8_receiver_2 : decode cX8_receiver 2 = .ok (.iload_n 2, 1) := by decide +kernel
theorem dX8_receiver_3 : decode cX8_receiver 3 = .ok (.invokevirtual 63, 3) := by decide +kernel
theorem dX8_receiver_6 : decode cX8_receiver 6 = .ok (.ifCond .ne 5, 3) := by decide +kernel
theorem dX8_receiver_9 : decode cX8_receiver 9 = .ok (.iconst (-1), 1) := by decide +kernel
theorem dX8_receiver_10 : decode cX8_receiver 10 = .ok (.ireturn, 1) := by decide +kernel
theorem dX8_receiver_11 : decode cX8_receiver 11 = .ok (.aload_n 0, 1) := by decide +kernel
theorem dX8_receiver_12 : decode cX8_receiver 12 = .ok (.getfield 42, 3) := by decide +kernel
theorem dX8_receiver_15 : decode cX8_receiver 15 = .ok (.aload_n 0, 1) := by decide +kernel
theorem dX8_receiver_16 : decode cX8_receiver 16 = .ok (.iload_n 1, 1) := by decide +kernel
theorem dX8_receiver_17 : decode cX8_receiver 17 = .ok (.iload_n 2, 1) := by decide +kernel
theorem dX8_receiver_18 : decode cX8_receiver 18 = .ok (.invokevirtual 67, 3) := by decide +kernel
theorem dX8_receiver_21 : decode cX8_receiver 21 = .ok (.aaload, 1) := by decide +kernel
theorem dX8_receiver_22 : decode cX8_receiver 22 = .ok (.astore 4, 2) := by decide +kernel
theorem dX8_receiver_24 : decode cX8_receiver 24 = .ok (.iload_n 3, 1) := by decide +kernel
theorem dX8_receiver_25 : decode cX8_receiver 25 = .ok (.tableswitch 143 0 11 #[63, 69, 75, 81, 87, 93, 99, 113, 119, 125, 131, 137], 63) := by decide +kernel
theorem dX8_receiver_88 : decode cX8_receiver 88 = .ok (.aload 4, 2) := by decide +kernel
theorem dX8_receiver_90 : decode cX8_receiver 90 = .ok (.getfield 185, 3) := by decide +kernel
theorem dX8_receiver_93 : decode cX8_receiver 93 = .ok (.ireturn, 1) := by decide +kernel
theorem dX8_receiver_94 : decode cX8_receiver 94 = .ok (.aload 4, 2) := by decide +kernel
theorem dX8_receiver_96 : decode cX8_receiver 96 = .ok (.getfield 186, 3) := by decide +kernel
theorem dX8_receiver_99 : decode cX8_receiver 99 = .ok (.ireturn, 1) := by decide +kernel
theorem dX8_receiver_100 : decode cX8_receiver 100 = .ok (.aload 4, 2) := by decide +kernel
theorem dX8_receiver_102 : decode cX8_receiver 102 = .ok (.getfield 189, 3) := by decide +kernel
theorem dX8_receiver_105 : decode cX8_receiver 105 = .ok (.ireturn, 1) := by decide +kernel
theorem dX8_receiver_106 : decode cX8_receiver 106 = .ok (.aload 4, 2) := by decide +kernel
theorem dX8_receiver_108 : decode cX8_receiver 108 = .ok (.getfield 192, 3) := by decide +kernel
theorem dX8_receiver_111 : decode cX8_receiver 111 = .ok (.ireturn, 1) := by decide +kernel
theorem dX8_receiver_112 : decode cX8_receiver 112 = .ok (.aload 4, 2) := by decide +kernel
theorem dX8_receiver_114 : decode cX8_receiver 114 = .ok (.getfield 195, 3) := by decide +kernel
theorem dX8_receiver_117 : decode cX8_receiver 117 = .ok (.ireturn, 1) := by decide +kernel
theorem dX8_receiver_118 : decode cX8_receiver 118 = .ok (.aload 4, 2) := by decide +kernel
theorem dX8_receiver_120 : decode cX8_receiver 120 = .ok (.getfield 198, 3) := by decide +kernel
theorem dX8_receiver_123 : decode cX8_receiver 123 = .ok (.ireturn, 1) := by decide +kernel
theorem dX8_receiver_124 : decode cX8_receiver 124 = .ok (.aload 4, 2) := by decide +kernel
theorem dX8_receiver_126 : decode cX8_receiver 126 = .ok (.getfield 201, 3) := by decide +kernel
theorem dX8_receiver_129 : decode cX8_receiver 129 = .ok (.ifCond .eq 7, 3) := by decide +kernel
theorem dX8_receiver_132 : decode cX8_receiver 132 = .ok (.iconst 1, 1) := by decide +kernel
theorem dX8_receiver_133 : decode cX8_receiver 133 = .ok (.goto 4, 3) := by decide +kernel
theorem dX8_receiver_136 : decode cX8_receiver 136 = .ok (.iconst 0, 1) := by decide +kernel
theorem dX8_receiver_137 : decode cX8_receiver 137 = .ok (.ireturn, 1) := by decide +kernel
theorem dX8_receiver_138 : decode cX8_receiver 138 = .ok (.aload 4, 2) := by decide +kernel
theorem dX8_receiver_140 : decode cX8_receiver 140 = .ok (.invokevirtual 204, 3) := by decide +kernel
theorem dX8_receiver_143 : decode cX8_receiver 143 = .ok (.ireturn, 1) := by decide +kernel
theorem dX8_receiver_144 : decode cX8_receiver 144 = .ok (.aload 4, 2) := by decide +kernel
theorem dX8_receiver_146 : decode cX8_receiver 146 = .ok (.getfield 207, 3) := by decide +kernel
theorem dX8_receiver_149 : decode cX8_receiver 149 = .ok (.ireturn, 1) := by decide +kernel
theorem dX8_receiver_150 : decode cX8_receiver 150 = .ok (.aload 4, 2) := by decide +kernel
theorem dX8_receiver_152 : decode cX8_receiver 152 = .ok (.getfield 210, 3) := by decide +kernel
theorem dX8_receiver_155 : decode cX8_receiver 155 = .ok (.ireturn, 1) := by decide +kernel
theorem dX8_receiver_156 : decode cX8_receiver 156 = .ok (.aload 4, 2) := by decide +kernel
theorem dX8_receiver_158 : decode cX8_receiver 158 = .ok (.getfield 213, 3) := by decide +kernel
theorem dX8_receiver_161 : decode cX8_receiver 161 = .ok (.ireturn, 1) := by decide +kernel
theorem dX8_receiver_162 : decode cX8_receiver 162 = .ok (.aload 4, 2) := by decide +kernel
theorem dX8_receiver_164 : decode cX8_receiver 164 = .ok (.getfield 216, 3) := by decide +kernel
theorem dX8_receiver_167 : decode cX8_receiver 167 = .ok (.ireturn, 1) := by decide +kernel
theorem dX8_receiver_168 : decode cX8_receiver 168 = .ok (.iconst (-1), 1) := by decide +kernel
theorem dX8_receiver_169 : decode cX8_receiver 169 = .ok (.ireturn, 1) := by decide +kernel
theorem dX8_delivered_0 : decode cX8_delivered 0 = .ok (.aload_n 0, 1) := by decide +kernel
theorem dX8_delivered_1 : decode cX8_delivered 1 = .ok (.iload_n 1, 1) := by decide +kernel
theorem dX8_delivered_2 : decode cX8_delivered 2 = .ok (.iload_n 2, 1) := by decide +kernel
theorem dX8_delivered_3 : decode cX8_delivered 3 = .ok (.invokevirtual 63, 3) := by decide +kernel
theorem dX8_delivered_6 : decode cX8_delivered 6 = .ok (.ifCond .ne 5, 3) := by decide +kernel
theorem dX8_delivered_9 : decode cX8_delivered 9 = .ok (.iconst (-1), 1) := by decide +kernel
theorem dX8_delivered_10 : decode cX8_delivered 10 = .ok (.ireturn, 1) := by decide +kernel
theorem dX8_delivered_11 : decode cX8_delivered 11 = .ok (.aload_n 0, 1) := by decide +kernel
theorem dX8_delivered_12 : decode cX8_delivered 12 = .ok (.getfield 42, 3) := by decide +kernel
theorem dX8_delivered_15 : decode cX8_delivered 15 = .ok (.aload_n 0, 1) := by decide +kernel
theorem dX8_delivered_16 : decode cX8_delivered 16 = .ok (.iload_n 1, 1) := by decide +kernel
theorem dX8_delivered_17 : decode cX8_delivered 17 = .ok (.iload_n 2, 1) := by decide +kernel
theorem dX8_delivered_18 : decode cX8_delivered 18 = .ok (.invokevirtual 67, 3) := by decide +kernel
theorem dX8_delivered_21 : decode cX8_delivered 21 = .ok (.aaload, 1) := by decide +kernel
theorem dX8_delivered_22 : decode cX8_delivered 22 = .ok (.getfield 133, 3) := by decide +kernel
theorem dX8_delivered_25 : decode cX8_delivered 25 = .ok (.astore 4, 2) := by decide +kernel
theorem dX8_delivered_27 : decode cX8_delivered 27 = .ok (.iload_n 3, 1) := by decide +kernel
theorem dX8_delivered_28 : decode cX8_delivered 28 = .ok (.tableswitch 76 0 5 #[40, 46, 52, 58, 64, 70], 40) := by decide +kernel
theorem dX8_delivered_68 : decode cX8_delivered 68 = .ok (.aload 4, 2) := by decide +kernel
theorem dX8_delivered_70 : decode cX8_delivered 70 = .ok (.getfield 219, 3) := by decide +kernel
theorem dX8_delivered_73 : decode cX8_delivered 73 = .ok (.ireturn, 1) := by decide +kernel
theorem dX8_delivered_74 : decode cX8_delivered 74 = .ok (.aload 4, 2) := by decide +kernel
theorem dX8_delivered_76 : decode cX8_delivered 76 = .ok (.getfield 222, 3) := by decide +kernel
theorem dX8_delivered_79 : decode cX8_delivered 79 = .ok (.ireturn, 1) := by decide +kernel
theorem dX8_delivered_80 : decode cX8_delivered 80 = .ok (.aload 4, 2) := by decide +kernel
theorem dX8_delivered_82 : decode cX8_delivered 82 = .ok (.getfield 225, 3) := by decide +kernel
theorem dX8_delivered_85 : decode cX8_delivered 85 = .ok (.ireturn, 1) := by decide +kernel
theorem dX8_delivered_86 : decode cX8_delivered 86 = .ok (.aload 4, 2) := by decide +kernel
theorem dX8_delivered_88 : decode cX8_delivered 88 = .ok (.getfield 228, 3) := by decide +kernel
theorem dX8_delivered_91 : decode cX8_delivered 91 = .ok (.ireturn, 1) := by decide +kernel
theorem dX8_delivered_92 : decode cX8_delivered 92 = .ok (.aload 4, 2) := by decide +kernel
theorem dX8_delivered_94 : decode cX8_delivered 94 = .ok (.getfield 231, 3) := by decide +kernel
theorem dX8_delivered_97 : decode cX8_delivered 97 = .ok (.ireturn, 1) := by decide +kernel
theorem dX8_delivered_98 : decode cX8_delivered 98 = .ok (.aload 4, 2) := by decide +kernel
theorem dX8_delivered_100 : decode cX8_delivered 100 = .ok (.getfield 234, 3) := by decide +kernel
theorem dX8_delivered_103 : decode cX8_delivered 103 = .ok (.ireturn, 1) := by decide +kernel
theorem dX8_delivered_104 : decode cX8_delivered 104 = .ok (.iconst (-1), 1) := by decide +kernel
theorem dX8_delivered_105 : decode cX8_delivered 105 = .ok (.ireturn, 1) := by decide +kernel
theorem dX8_unit_0 : decode cX8_unit 0 = .ok (.aload_n 0, 1) := by decide +kernel
theorem dX8_unit_1 : decode cX8_unit 1 = .ok (.iload_n 1, 1) := by decide +kernel
theorem dX8_unit_2 : decode cX8_unit 2 = .ok (.iload_n 2, 1) := by decide +kernel
theorem dX8_unit_3 : decode cX8_unit 3 = .ok (.invokevirtual 63, 3) := by decide +kernel
theorem dX8_unit_6 : decode cX8_unit 6 = .ok (.ifCond .ne 5, 3) := by decide +kernel
theorem dX8_unit_9 : decode cX8_unit 9 = .ok (.iconst (-1), 1) := by decide +kernel
theorem dX8_unit_10 : decode cX8_unit 10 = .ok (.ireturn, 1) := by decide +kernel
theorem dX8_unit_11 : decode cX8_unit 11 = .ok (.aload_n 0, 1) := by decide +kernel
theorem dX8_unit_12 : decode cX8_unit 12 = .ok (.getfield 42, 3) := by decide +kernel
theorem dX8_unit_15 : decode cX8_unit 15 = .ok (.aload_n 0, 1) := by decide +kernel
theorem dX8_unit_16 : decode cX8_unit 16 = .ok (.iload_n 1, 1) := by decide +kernel
theorem dX8_unit_17 : decode cX8_unit 17 = .ok (.iload_n 2, 1) := by decide +kernel
theorem dX8_unit_18 : decode cX8_unit 18 = .ok (.invokevirtual 67, 3) := by decide +kernel
theorem dX8_unit_21 : decode cX8_unit 21 = .ok (.aaload, 1) := by decide +kernel
theorem dX8_unit_22 : decode cX8_unit 22 = .ok (.getfield 133, 3) := by decide +kernel
theorem dX8_unit_25 : decode cX8_unit 25 = .ok (.astore 4, 2) := by decide +kernel
theorem dX8_unit_27 : decode cX8_unit 27 = .ok (.iload_n 3, 1) := by decide +kernel
theorem dX8_unit_28 : decode cX8_unit 28 = .ok (.ifCond .lt 32, 3) := by decide +kernel
theorem dX8_unit_31 : decode cX8_unit 31 = .ok (.iload_n 3, 1) := by decide +kernel
theorem dX8_unit_32 : decode cX8_unit 32 = .ok (.aload 4, 2) := by decide +kernel
theorem dX8_unit_34 : decode cX8_unit 34 = .ok (.getfield 234, 3) := by decide +kernel
theorem dX8_unit_37 : decode cX8_unit 37 = .ok (.if_icmp .ge 23, 3) := by decide +kernel
theorem dX8_unit_40 : decode cX8_unit 40 = .ok (.iload_n 3, 1) := by decide +kernel
theorem dX8_unit_41 : decode cX8_unit 41 = .ok (.aload 4, 2) := by decide +kernel
theorem dX8_unit_43 : decode cX8_unit 43 = .ok (.getfield 237, 3) := by decide +kernel
theorem dX8_unit_46 : decode cX8_unit 46 = .ok (.arraylength, 1) := by decide +kernel
theorem dX8_unit_47 : decode cX8_unit 47 = .ok (.if_icmp .ge 13, 3) := by decide +kernel
theorem dX8_unit_50 : decode cX8_unit 50 = .ok (.aload 4, 2) := by decide +kernel
theorem dX8_unit_52 : decode cX8_unit 52 = .ok (.getfield 237, 3) := by decide +kernel
theorem dX8_unit_55 : decode cX8_unit 55 = .ok (.iload_n 3, 1) := by decide +kernel
theorem dX8_unit_56 : decode cX8_unit 56 = .ok (.iaload, 1) := by decide +kernel
theorem dX8_unit_57 : decode cX8_unit 57 = .ok (.goto 4, 3) := by decide +kernel
theorem dX8_unit_60 : decode cX8_unit 60 = .ok (.iconst (-1), 1) := by decide +kernel
theorem dX8_unit_61 : decode cX8_unit 61 = .ok (.ireturn, 1) := by decide +kernel
theorem dX8_process_0 : decode cX8_process 0 = .ok (.iload_n 1, 1) := by decide +kernel
theorem dX8_process_1 : decode cX8_process 1 = .ok (.ifCond .lt 17, 3) := by decide +kernel
theorem dX8_process_4 : decode cX8_process 4 = .ok (.iload_n 1, 1) := by decide +kernel
theorem dX8_process_5 : decode cX8_process 5 = .ok (.iconst 1, 1) := by decide +kernel
theorem dX8_process_6 : decode cX8_process 6 = .ok (.if_icmp .gt 12, 3) := by decide +kernel
theorem dX8_process_9 : decode cX8_process 9 = .ok (.iload_n 2, 1) := by decide +kernel
theorem dX8_process_10 : decode cX8_process 10 = .ok (.ifCond .lt 8, 3) := by decide +kernel
theorem dX8_process_13 : decode cX8_process 13 = .ok (.iload_n 2, 1) := by decide +kernel
theorem dX8_process_14 : decode cX8_process 14 = .ok (.iconst 4, 1) := by decide +kernel
theorem dX8_process_15 : decode cX8_process 15 = .ok (.if_icmp .lt 5, 3) := by decide +kernel
theorem dX8_process_18 : decode cX8_process 18 = .ok (.iconst (-1), 1) := by decide +kernel
theorem dX8_process_19 : decode cX8_process 19 = .ok (.ireturn, 1) := by decide +kernel
theorem dX8_process_20 : decode cX8_process 20 = .ok (.aload_n 0, 1) := by decide +kernel
theorem dX8_process_21 : decode cX8_process 21 = .ok (.getfield 52, 3) := by decide +kernel
theorem dX8_process_24 : decode cX8_process 24 = .ok (.iload_n 1, 1) := by decide +kernel
theorem dX8_process_25 : decode cX8_process 25 = .ok (.iconst 4, 1) := by decide +kernel
theorem dX8_process_26 : decode cX8_process 26 = .ok (.imul, 1) := by decide +kernel
theorem dX8_process_27 : decode cX8_process 27 = .ok (.iload_n 2, 1) := by decide +kernel
theorem dX8_process_28 : decode cX8_process 28 = .ok (.iadd, 1) := by decide +kernel
theorem dX8_process_29 : decode cX8_process 29 = .ok (.aaload, 1) := by decide +kernel
theorem dX8_process_30 : decode cX8_process 30 = .ok (.astore 4, 2) := by decide +kernel
theorem dX8_process_32 : decode cX8_process 32 = .ok (.iload_n 3, 1) := by decide +kernel
theorem dX8_process_33 : decode cX8_process 33 = .ok (.tableswitch 53 0 2 #[27, 33, 39], 27) := by decide +kernel
theorem dX8_process_60 : decode cX8_process 60 = .ok (.aload 4, 2) := by decide +kernel
theorem dX8_process_62 : decode cX8_process 62 = .ok (.getfield 94, 3) := by decide +kernel
theorem dX8_process_65 : decode cX8_process 65 = .ok (.ireturn, 1) := by decide +kernel
theorem dX8_process_66 : decode cX8_process 66 = .ok (.aload 4, 2) := by decide +kernel
theorem dX8_process_68 : decode cX8_process 68 = .ok (.getfield 101, 3) := by decide +kernel
theorem dX8_process_71 : decode cX8_process 71 = .ok (.ireturn, 1) := by decide +kernel
theorem dX8_process_72 : decode cX8_process 72 = .ok (.aload 4, 2) := by decide +kernel
theorem dX8_process_74 : decode cX8_process 74 = .ok (.getfield 240, 3) := by decide +kernel
theorem dX8_process_77 : decode cX8_process 77 = .ok (.ifCond .eq 7, 3) := by decide +kernel
theorem dX8_process_80 : decode cX8_process 80 = .ok (.iconst 1, 1) := by decide +kernel
theorem dX8_process_81 : decode cX8_process 81 = .ok (.goto 4, 3) := by decide +kernel
theorem dX8_process_84 : decode cX8_process 84 = .ok (.iconst 0, 1) := by decide +kernel
theorem dX8_process_85 : decode cX8_process 85 = .ok (.ireturn, 1) := by decide +kernel
theorem dX8_process_86 : decode cX8_process 86 = .ok (.iconst (-1), 1) := by decide +kernel
theorem dX8_process_87 : decode cX8_process 87 = .ok (.ireturn, 1) := by decide +kernel
theorem dX8_world_0 : decode cX8_world 0 = .ok (.iload_n 1, 1) := by decide +kernel
theorem dX8_world_1 : decode cX8_world 1 = .ok (.tableswitch 78 0 6 #[43, 48, 53, 58, 63, 68, 73], 43) := by decide +kernel
theorem dX8_world_44 : decode cX8_world 44 = .ok (.aload_n 0, 1) := by decide +kernel
theorem dX8_world_45 : decode cX8_world 45 = .ok (.getfield 84, 3) := by decide +kernel
theorem dX8_world_48 : decode cX8_world 48 = .ok (.ireturn, 1) := by decide +kernel
theorem dX8_world_49 : decode cX8_world 49 = .ok (.aload_n 0, 1) := by decide +kernel
theorem dX8_world_50 : decode cX8_world 50 = .ok (.getfield 130, 3) := by decide +kernel
theorem dX8_world_53 : decode cX8_world 53 = .ok (.ireturn, 1) := by decide +kernel
theorem dX8_world_54 : decode cX8_world 54 = .ok (.aload_n 0, 1) := by decide +kernel
theorem dX8_world_55 : decode cX8_world 55 = .ok (.getfield 243, 3) := by decide +kernel
theorem dX8_world_58 : decode cX8_world 58 = .ok (.ireturn, 1) := by decide +kernel
theorem dX8_world_59 : decode cX8_world 59 = .ok (.aload_n 0, 1) := by decide +kernel
