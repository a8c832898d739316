theorem dX0_init_0 : decode cX0_init 0 = .ok (.aload_n 0, 1) := by decide +kernel
theorem dX0_init_1 : decode cX0_init 1 = .ok (.invokespecial 3, 3) := by decide +kernel
theorem dX0_init_4 : decode cX0_init 4 = .ok (.aload_n 0, 1) := by decide +kernel
theorem dX0_init_5 : decode cX0_init 5 = .ok (.sipush 250, 3) := by decide +kernel
theorem dX0_init_8 : decode cX0_init 8 = .ok (.newarray .int, 2) := by decide +kernel
theorem dX0_init_10 : decode cX0_init 10 = .ok (.putfield 9, 3) := by decide +kernel
theorem dX0_init_13 : decode cX0_init 13 = .ok (.return_, 1) := by decide +kernel
theorem dX0_put_0 : decode cX0_put 0 = .ok (.aload_n 0, 1) := by decide +kernel
theorem dX0_put_1 : decode cX0_put 1 = .ok (.getfield 15, 3) := by decide +kernel
theorem dX0_put_4 : decode cX0_put 4 = .ok (.aload_n 0, 1) := by decide +kernel
theorem dX0_put_5 : decode cX0_put 5 = .ok (.getfield 9, 3) := by decide +kernel
theorem dX0_put_8 : decode cX0_put 8 = .ok (.arraylength, 1) := by decide +kernel
theorem dX0_put_9 : decode cX0_put 9 = .ok (.if_icmp .ge 20, 3) := by decide +kernel
theorem dX0_put_12 : decode cX0_put 12 = .ok (.aload_n 0, 1) := by decide +kernel
theorem dX0_put_13 : decode cX0_put 13 = .ok (.getfield 9, 3) := by decide +kernel
theorem dX0_put_16 : decode cX0_put 16 = .ok (.aload_n 0, 1) := by decide +kernel
theorem dX0_put_17 : decode cX0_put 17 = .ok (.dup, 1) := by decide +kernel
theorem dX0_put_18 : decode cX0_put 18 = .ok (.getfield 15, 3) := by decide +kernel
theorem dX0_put_21 : decode cX0_put 21 = .ok (.dup_x1, 1) := by decide +kernel
theorem dX0_put_22 : decode cX0_put 22 = .ok (.iconst 1, 1) := by decide +kernel
theorem dX0_put_23 : decode cX0_put 23 = .ok (.iadd, 1) := by decide +kernel
theorem dX0_put_24 : decode cX0_put 24 = .ok (.putfield 15, 3) := by decide +kernel
theorem dX0_put_27 : decode cX0_put 27 = .ok (.iload_n 1, 1) := by decide +kernel
theorem dX0_put_28 : decode cX0_put 28 = .ok (.iastore, 1) := by decide +kernel
theorem dX0_put_29 : decode cX0_put 29 = .ok (.return_, 1) := by decide +kernel
theorem dX0_set_0 : decode cX0_set 0 = .ok (.iload_n 1, 1) := by decide +kernel
theorem dX0_set_1 : decode cX0_set 1 = .ok (.ifCond .lt 18, 3) := by decide +kernel
theorem dX0_set_4 : decode cX0_set 4 = .ok (.iload_n 1, 1) := by decide +kernel
theorem dX0_set_5 : decode cX0_set 5 = .ok (.aload_n 0, 1) := by decide +kernel
theorem dX0_set_6 : decode cX0_set 6 = .ok (.getfield 15, 3) := by decide +kernel
theorem dX0_set_9 : decode cX0_set 9 = .ok (.if_icmp .ge 10, 3) := by decide +kernel
theorem dX0_set_12 : decode cX0_set 12 = .ok (.aload_n 0, 1) := by decide +kernel
theorem dX0_set_13 : decode cX0_set 13 = .ok (.getfield 9, 3) := by decide +kernel
theorem dX0_set_16 : decode cX0_set 16 = .ok (.iload_n 1, 1) := by decide +kernel
theorem dX0_set_17 : decode cX0_set 17 = .ok (.iload_n 2, 1) := by decide +kernel
theorem dX0_set_18 : decode cX0_set 18 = .ok (.iastore, 1) := by decide +kernel
theorem dX0_set_19 : decode cX0_set 19 = .ok (.return_, 1) := by decide +kernel
theorem dX0_at_0 : decode cX0_at 0 = .ok (.iload_n 1, 1) := by decide +kernel
theorem dX0_at_1 : decode cX0_at 1 = .ok (.ifCond .lt 20, 3) := by decide +kernel
theorem dX0_at_4 : decode cX0_at 4 = .ok (.iload_n 1, 1) := by decide +kernel
theorem dX0_at_5 : decode cX0_at 5 = .ok (.aload_n 0, 1) := by decide +kernel
theorem dX0_at_6 : decode cX0_at 6 = .ok (.getfield 15, 3) := by decide +kernel
theorem dX0_at_9 : decode cX0_at 9 = .ok (.if_icmp .ge 12, 3) := by decide +kernel
theorem dX0_at_12 : decode cX0_at 12 = .ok (.aload_n 0, 1) := by decide +kernel
theorem dX0_at_13 : decode cX0_at 13 = .ok (.getfield 9, 3) := by decide +kernel
theorem dX0_at_16 : decode cX0_at 16 = .ok (.iload_n 1, 1) := by decide +kernel
theorem dX0_at_17 : decode cX0_at 17 = .ok (.iaload, 1) := by decide +kernel
theorem dX0_at_18 : decode cX0_at 18 = .ok (.goto 4, 3) := by decide +kernel
theorem dX0_at_21 : decode cX0_at 21 = .ok (.iconst 0, 1) := by decide +kernel
theorem dX0_at_22 : decode cX0_at 22 = .ok (.ireturn, 1) := by decide +kernel
theorem dX1_init_0 : decode cX1_init 0 = .ok (.aload_n 0, 1) := by decide +kernel
theorem dX1_init_1 : decode cX1_init 1 = .ok (.invokespecial 1, 3) := by decide +kernel
theorem dX1_init_4 : decode cX1_init 4 = .ok (.aload_n 0, 1) := by decide +kernel
theorem dX1_init_5 : decode cX1_init 5 = .ok (.new 7, 3) := by decide +kernel
theorem dX1_init_8 : decode cX1_init 8 = .ok (.dup, 1) := by decide +kernel
theorem dX1_init_9 : decode cX1_init 9 = .ok (.invokespecial 9, 3) := by decide +kernel
theorem dX1_init_12 : decode cX1_init 12 = .ok (.putfield 10, 3) := by decide +kernel
theorem dX1_init_15 : decode cX1_init 15 = .ok (.return_, 1) := by decide +kernel
theorem dX1_makeEmpty_0 : decode cX1_makeEmpty 0 = .ok (.aload_n 0, 1) := by decide +kernel
theorem dX1_makeEmpty_1 : decode cX1_makeEmpty 1 = .ok (.iconst 0, 1) := by decide +kernel
theorem dX1_makeEmpty_2 : decode cX1_makeEmpty 2 = .ok (.putfield 16, 3) := by decide +kernel
theorem dX1_makeEmpty_5 : decode cX1_makeEmpty 5 = .ok (.aload_n 0, 1) := by decide +kernel
theorem dX1_makeEmpty_6 : decode cX1_makeEmpty 6 = .ok (.iconst 0, 1) := by decide +kernel
theorem dX1_makeEmpty_7 : decode cX1_makeEmpty 7 = .ok (.putfield 20, 3) := by decide +kernel
theorem dX1_makeEmpty_10 : decode cX1_makeEmpty 10 = .ok (.aload_n 0, 1) := by decide +kernel
theorem dX1_makeEmpty_11 : decode cX1_makeEmpty 11 = .ok (.iconst 0, 1) := by decide +kernel
theorem dX1_makeEmpty_12 : decode cX1_makeEmpty 12 = .ok (.putfield 23, 3) := by decide +kernel
theorem dX1_makeEmpty_15 : decode cX1_makeEmpty 15 = .ok (.return_, 1) := by decide +kernel
theorem dX2_init_0 : decode cX2_init 0 = .ok (.aload_n 0, 1) := by decide +kernel
theorem dX2_init_1 : decode cX2_init 1 = .ok (.invokespecial 1, 3) := by decide +kernel
theorem dX2_init_4 : decode cX2_init 4 = .ok (.aload_n 0, 1) := by decide +kernel
theorem dX2_init_5 : decode cX2_init 5 = .ok (.sipush 176, 3) := by decide +kernel
theorem dX2_init_8 : decode cX2_init 8 = .ok (.newarray .int, 2) := by decide +kernel
theorem dX2_init_10 : decode cX2_init 10 = .ok (.putfield 7, 3) := by decide +kernel
theorem dX2_init_13 : decode cX2_init 13 = .ok (.aload_n 0, 1) := by decide +kernel
theorem dX2_init_14 : decode cX2_init 14 = .ok (.bipush 16, 2) := by decide +kernel
theorem dX2_init_16 : decode cX2_init 16 = .ok (.newarray .int, 2) := by decide +kernel
theorem dX2_init_18 : decode cX2_init 18 = .ok (.putfield 13, 3) := by decide +kernel
theorem dX2_init_21 : decode cX2_init 21 = .ok (.aload_n 0, 1) := by decide +kernel
theorem dX2_init_22 : decode cX2_init 22 = .ok (.bipush 16, 2) := by decide +kernel
theorem dX2_init_24 : decode cX2_init 24 = .ok (.newarray .int, 2) := by decide +kernel
theorem dX2_init_26 : decode cX2_init 26 = .ok (.putfield 16, 3) := by decide +kernel
theorem dX2_init_29 : decode cX2_init 29 = .ok (.return_, 1) := by decide +kernel
theorem dX2_setKey_0 : decode cX2_setKey 0 = .ok (.iconst 0, 1) := by decide +kernel
theorem dX2_setKey_1 : decode cX2_setKey 1 = .ok (.istore_n 3, 1) := by decide +kernel
theorem dX2_setKey_2 : decode cX2_setKey 2 = .ok (.iload_n 3, 1) := by decide +kernel
theorem dX2_setKey_3 : decode cX2_setKey 3 = .ok (.bipush 16, 2) := by decide +kernel
theorem dX2_setKey_5 : decode cX2_setKey 5 = .ok (.if_icmp .ge 37, 3) := by decide +kernel
theorem dX2_setKey_8 : decode cX2_setKey 8 = .ok (.aload_n 0, 1) := by decide +kernel
theorem dX2_setKey_9 : decode cX2_setKey 9 = .ok (.getfield 7, 3) := by decide +kernel
theorem dX2_setKey_12 : decode cX2_setKey 12 = .ok (.iload_n 3, 1) := by decide +kernel
theorem dX2_setKey_13 : decode cX2_setKey 13 = .ok (.iload_n 1, 1) := by decide +kernel
theorem dX2_setKey_14 : decode cX2_setKey 14 = .ok (.bipush 8, 2) := by decide +kernel
theorem dX2_setKey_16 : decode cX2_setKey 16 = .ok (.iload_n 3, 1) := by decide +kernel
theorem dX2_setKey_17 : decode cX2_setKey 17 = .ok (.iconst 3, 1) := by decide +kernel
theorem dX2_setKey_18 : decode cX2_setKey 18 = .ok (.iand, 1) := by decide +kernel
theorem dX2_setKey_19 : decode cX2_setKey 19 = .ok (.imul, 1) := by decide +kernel
theorem dX2_setKey_20 : decode cX2_setKey 20 = .ok (.ishr, 1) := by decide +kernel
theorem dX2_setKey_21 : decode cX2_setKey 21 = .ok (.bipush 17, 2) := by decide +kernel
theorem dX2_setKey_23 : decode cX2_setKey 23 = .ok (.iload_n 3, 1) := by decide +kernel
theorem dX2_setKey_24 : decode cX2_setKey 24 = .ok (.imul, 1) := by decide +kernel
theorem dX2_setKey_25 : decode cX2_setKey 25 = .ok (.iadd, 1) := by decide +kernel
theorem dX2_setKey_26 : decode cX2_setKey 26 = .ok (.bipush 29, 2) := by decide +kernel
theorem dX2_setKey_28 : decode cX2_setKey 28 = .ok (.iload_n 2, 1) := by decide +kernel
theorem dX2_setKey_29 : decode cX2_setKey 29 = .ok (.imul, 1) := by decide +kernel
theorem dX2_setKey_30 : decode cX2_setKey 30 = .ok (.iadd, 1) := by decide +kernel
theorem dX2_setKey_31 : decode cX2_setKey 31 = .ok (.sipush 255, 3) := by decide +kernel
theorem dX2_setKey_34 : decode cX2_setKey 34 = .ok (.iand, 1) := by decide +kernel
theorem dX2_setKey_35 : decode cX2_setKey 35 = .ok (.iastore, 1) := by decide +kernel
theorem dX2_setKey_36 : decode cX2_setKey 36 = .ok (.iinc 3 1, 3) := by decide +kernel
theorem dX2_setKey_39 : decode cX2_setKey 39 = .ok (.goto (-37), 3) := by decide +kernel
theorem dX2_setKey_42 : decode cX2_setKey 42 = .ok (.iconst 1, 1) := by decide +kernel
theorem dX2_setKey_43 : decode cX2_setKey 43 = .ok (.istore_n 3, 1) := by decide +kernel
theorem dX2_setKey_44 : decode cX2_setKey 44 = .ok (.bipush 16, 2) := by decide +kernel
theorem dX2_setKey_46 : decode cX2_setKey 46 = .ok (.istore 4, 2) := by decide +kernel
theorem dX2_setKey_48 : decode cX2_setKey 48 = .ok (.iload 4, 2) := by decide +kernel
theorem dX2_setKey_50 : decode cX2_setKey 50 = .ok (.aload_n 0, 1) := by decide +kernel
theorem dX2_setKey_51 : decode cX2_setKey 51 = .ok (.getfield 7, 3) := by decide +kernel
theorem dX2_setKey_54 : decode cX2_setKey 54 = .ok (.arraylength, 1) := by decide +kernel
theorem dX2_setKey_55 : decode cX2_setKey 55 = .ok (.if_icmp .ge 143, 3) := by decide +kernel
theorem dX2_setKey_58 : decode cX2_setKey 58 = .ok (.iload 4, 2) := by decide +kernel
theorem dX2_setKey_60 : decode cX2_setKey 60 = .ok (.bipush 15, 2) := by decide +kernel
theorem dX2_setKey_62 : decode cX2_setKey 62 = .ok (.iand, 1) := by decide +kernel
theorem dX2_setKey_63 : decode cX2_setKey 63 = .ok (.ifCond .ne 7, 3) := by decide +kernel
theorem dX2_setKey_66 : decode cX2_setKey 66 = .ok (.iconst 1, 1) := by decide +kernel
theorem dX2_setKey_67 : decode cX2_setKey 67 = .ok (.goto 4, 3) := by decide +kernel
theorem dX2_setKey_70 : decode cX2_setKey 70 = .ok (.iconst 0, 1) := by decide +kernel
theorem dX2_setKey_71 : decode cX2_setKey 71 = .ok (.istore 5, 2) := by decide +kernel
theorem dX2_setKey_73 : decode cX2_setKey 73 = .ok (.iconst 0, 1) := by decide +kernel
theorem dX2_setKey_74 : decode cX2_setKey 74 = .ok (.istore 6, 2) := by decide +kernel
theorem dX2_setKey_76 : decode cX2_setKey 76 = .ok (.iload 6, 2) := by decide +kernel
theorem dX2_setKey_78 : decode cX2_setKey 78 = .ok (.iconst 4, 1) := by decide +kernel
theorem dX2_setKey_79 : decode cX2_setKey 79 = .ok (.if_icmp .ge 81, 3) := by decide +kernel
theorem dX2_setKey_82 : decode cX2_setKey 82 = .ok (.iload 5, 2) := by decide +kernel
theorem dX2_setKey_84 : decode cX2_setKey 84 = .ok (.ifCond .eq 30, 3) := by decide +kernel
theorem dX2_setKey_87 : decode cX2_setKey 87 = .ok (.getstatic 19, 3) := by decide +kernel
theorem dX2_setKey_90 : decode cX2_setKey 90 = .ok (.aload_n 0, 1) := by decide +kernel
theorem dX2_setKey_91 : decode cX2_setKey 91 = .ok (.getfield 7, 3) := by decide +kernel
theorem dX2_setKey_94 : decode cX2_setKey 94 = .ok (.iload 4, 2) := by decide +kernel
theorem dX2_setKey_96 : decode cX2_setKey 96 = .ok (.iconst 4, 1) := by decide +kernel
theorem dX2_setKey_97 : decode cX2_setKey 97 = .ok (.isub, 1) := by decide +kernel
theorem dX2_setKey_98 : decode cX2_setKey 98 = .ok (.iload 6, 2) := by decide +kernel
theorem dX2_setKey_100 : decode cX2_setKey 100 = .ok (.iconst 1, 1) := by decide +kernel
theorem dX2_setKey_101 : decode cX2_setKey 101 = .ok (.iadd, 1) := by decide +kernel
theorem dX2_setKey_102 : decode cX2_setKey 102 = .ok (.iconst 3, 1) := by decide +kernel
theorem dX2_setKey_103 : decode cX2_setKey 103 = .ok (.iand, 1) := by decide +kernel
theorem dX2_setKey_104 : decode cX2_setKey 104 = .ok (.iadd, 1) := by decide +kernel
theorem dX2_setKey_105 : decode cX2_setKey 105 = .ok (.iaload, 1) := by decide +kernel
theorem dX2_setKey_106 : decode cX2_setKey 106 = .ok (.sipush 255, 3) := by decide +kernel
theorem dX2_setKey_109 : decode cX2_setKey 109 = .ok (.iand, 1) := by decide +kernel
theorem dX2_setKey_110 : decode cX2_setKey 110 = .ok (.iaload, 1) := by decide +kernel
theorem dX2_setKey_111 : decode cX2_setKey 111 = .ok (.goto 15, 3) := by decide +kernel
theorem dX2_setKey_114 : decode cX2_setKey 114 = .ok (.aload_n 0, 1) := by decide +kernel
theorem dX2_setKey_115 : decode cX2_setKey 115 = .ok (.getfield 7, 3) := by decide +kernel
theorem dX2_setKey_118 : decode cX2_setKey 118 = .ok (.iload 4, 2) := by decide +kernel
theorem dX2_setKey_120 : decode cX2_setKey 120 = .ok (.iconst 4, 1) := by decide +kernel
theorem dX2_setKey_121 : decode cX2_setKey 121 = .ok (.isub, 1) := by decide +kernel
theorem dX2_setKey_122 : decode cX2_setKey 122 = .ok (.iload 6, 2) := by decide +kernel
theorem dX2_setKey_124 : decode cX2_setKey 124 = .ok (.iadd, 1) := by decide +kernel
theorem dX2_setKey_125 : decode cX2_setKey 125 = .ok (.iaload, 1) := by decide +kernel
theorem dX2_setKey_126 : decode cX2_setKey 126 = .ok (.istore 7, 2) := by decide +kernel
theorem dX2_setKey_128 : decode cX2_setKey 128 = .ok (.aload_n 0, 1) := by decide +kernel
theorem dX2_setKey_129 : decode cX2_setKey 129 = .ok (.getfield 7, 3) := by decide +kernel
theorem dX2_setKey_132 : decode cX2_setKey 132 = .ok (.iload 4, 2) := by decide +kernel
theorem dX2_setKey_134 : decode cX2_setKey 134 = .ok (.iload 6, 2) := by decide +kernel
theorem dX2_setKey_136 : decode cX2_setKey 136 = .ok (.iadd, 1) := by decide +kernel
theorem dX2_setKey_137 : decode cX2_setKey 137 = .ok (.aload_n 0, 1) := by decide +kernel
theorem dX2_setKey_138 : decode cX2_setKey 138 = .ok (.getfield 7, 3) := by decide +kernel
theorem dX2_setKey_141 : decode cX2_setKey 141 = .ok (.iload 4, 2) := by decide +kernel
theorem dX2_setKey_143 : decode cX2_setKey 143 = .ok (.iload 6, 2) := by decide +kernel
theorem dX2_setKey_145 : decode cX2_setKey 145 = .ok (.iadd, 1) := by decide +kernel
theorem dX2_setKey_146 : decode cX2_setKey 146 = .ok (.bipush 16, 2) := by decide +kernel
theorem dX2_setKey_148 : decode cX2_setKey 148 = .ok (.isub, 1) := by decide +kernel
theorem dX2_setKey_149 : decode cX2_setKey 149 = .ok (.iaload, 1) := by decide +kernel
theorem dX2_setKey_150 : decode cX2_setKey 150 = .ok (.iload 7, 2) := by decide +kernel
theorem dX2_setKey_152 : decode cX2_setKey 152 = .ok (.ixor, 1) := by decide +kernel
theorem dX2_setKey_153 : decode cX2_setKey 153 = .ok (.iastore, 1) := by decide +kernel
theorem dX2_setKey_154 : decode cX2_setKey 154 = .ok (.iinc 6 1, 3) := by decide +kernel
theorem dX2_setKey_157 : decode cX2_setKey 157 = .ok (.goto (-81), 3) := by decide +kernel
theorem dX2_setKey_160 : decode cX2_setKey 160 = .ok (.iload 5, 2) := by decide +kernel
theorem dX2_setKey_162 : decode cX2_setKey 162 = .ok (.ifCond .eq 30, 3) := by decide +kernel
theorem dX2_setKey_165 : decode cX2_setKey 165 = .ok (.aload_n 0, 1) := by decide +kernel
theorem dX2_setKey_166 : decode cX2_setKey 166 = .ok (.getfield 7, 3) := by decide +kernel
theorem dX2_setKey_169 : decode cX2_setKey 169 = .ok (.iload 4, 2) := by decide +kernel
theorem dX2_setKey_171 : decode cX2_setKey 171 = .ok (.dup2, 1) := by decide +kernel
theorem dX2_setKey_172 : decode cX2_setKey 172 = .ok (.iaload, 1) := by decide +kernel
theorem dX2_setKey_173 : decode cX2_setKey 173 = .ok (.iload_n 3, 1) := by decide +kernel
theorem dX2_setKey_174 : decode cX2_setKey 174 = .ok (.ixor, 1) := by decide +kernel
theorem dX2_setKey_175 : decode cX2_setKey 175 = .ok (.iastore, 1) := by decide +kernel
theorem dX2_setKey_176 : decode cX2_setKey 176 = .ok (.iload_n 3, 1) := by decide +kernel
theorem dX2_setKey_177 : decode cX2_setKey 177 = .ok (.iconst 1, 1) := by decide +kernel
theorem dX2_setKey_178 : decode cX2_setKey 178 = .ok (.ishl, 1) := by decide +kernel
theorem dX2_setKey_179 : decode cX2_setKey 179 = .ok (.iload_n 3, 1) := by decide +kernel
theorem dX2_setKey_180 : decode cX2_setKey 180 = .ok (.bipush 7, 2) := by decide +kernel
theorem dX2_setKey_182 : decode cX2_setKey 182 = .ok (.ishr, 1) := by decide +kernel
theorem dX2_setKey_183 : decode cX2_setKey 183 = .ok (.bipush 27, 2) := by decide +kernel
theorem dX2_setKey_185 : decode cX2_setKey 185 = .ok (.imul, 1) := by decide +kernel
theorem dX2_setKey_186 : decode cX2_setKey 186 = .ok (.ixor, 1) := by decide +kernel
theorem dX2_setKey_187 : decode cX2_setKey 187 = .ok (.sipush 255, 3) := by decide +kernel
theorem dX2_setKey_190 : decode cX2_setKey 190 = .ok (.iand, 1) := by decide +kernel
theorem dX2_setKey_191 : decode cX2_setKey 191 = .ok (.istore_n 3, 1) := by decide +kernel
theorem dX2_setKey_192 : decode cX2_setKey 192 = .ok (.iinc 4 4, 3) := by decide +kernel
theorem dX2_setKey_195 : decode cX2_setKey 195 = .ok (.goto (-147), 3) := by decide +kernel
theorem dX2_setKey_198 : decode cX2_setKey 198 = .ok (.return_, 1) := by decide +kernel
theorem dX2_mask_0 : decode cX2_mask 0 = .ok (.iconst 1, 1) := by decide +kernel
theorem dX2_mask_1 : decode cX2_mask 1 = .ok (.istore 5, 2) := by decide +kernel
theorem dX2_mask_3 : decode cX2_mask 3 = .ok (.iload 5, 2) := by decide +kernel
theorem dX2_mask_5 : decode cX2_mask 5 = .ok (.iload_n 2, 1) := by decide +kernel
theorem dX2_mask_6 : decode cX2_mask 6 = .ok (.if_icmp .ge 76, 3) := by decide +kernel
theorem dX2_mask_9 : decode cX2_mask 9 = .ok (.aload_n 0, 1) := by decide +kernel
theorem dX2_mask_10 : decode cX2_mask 10 = .ok (.iload_n 3, 1) := by decide +kernel
theorem dX2_mask_11 : decode cX2_mask 11 = .ok (.iload 4, 2) := by decide +kernel
theorem dX2_mask_13 : decode cX2_mask 13 = .ok (.iload 5, 2) := by decide +kernel
theorem dX2_mask_15 : decode cX2_mask 15 = .ok (.iconst 4, 1) := by decide +kernel
theorem dX2_mask_16 : decode cX2_mask 16 = .ok (.ishr, 1) := by decide +kernel
theorem dX2_mask_17 : decode cX2_mask 17 = .ok (.invokevirtual 24, 3) := by decide +kernel
theorem dX2_mask_20 : decode cX2_mask 20 = .ok (.aload_n 0, 1) := by decide +kernel
theorem dX2_mask_21 : decode cX2_mask 21 = .ok (.invokevirtual 28, 3) := by decide +kernel
theorem dX2_mask_24 : decode cX2_mask 24 = .ok (.iconst 0, 1) := by decide +kernel
theorem dX2_mask_25 : decode cX2_mask 25 = .ok (.istore 6, 2) := by decide +kernel
theorem dX2_mask_27 : decode cX2_mask 27 = .ok (.iload 6, 2) := by decide +kernel
theorem dX2_mask_29 : decode cX2_mask 29 = .ok (.bipush 16, 2) := by decide +kernel
theorem dX2_mask_31 : decode cX2_mask 31 = .ok (.if_icmp .ge 45, 3) := by decide +kernel
theorem dX2_mask_34 : decode cX2_mask 34 = .ok (.iload 5, 2) := by decide +kernel
theorem dX2_mask_36 : decode cX2_mask 36 = .ok (.iload 6, 2) := by decide +kernel
theorem dX2_mask_38 : decode cX2_mask 38 = .ok (.iadd, 1) := by decide +kernel
theorem dX2_mask_39 : decode cX2_mask 39 = .ok (.iload_n 2, 1) := by decide +kernel
theorem dX2_mask_40 : decode cX2_mask 40 = .ok (.if_icmp .ge 36, 3) := by decide +kernel
theorem dX2_mask_43 : decode cX2_mask 43 = .ok (.iload 5, 2) := by decide +kernel
theorem dX2_mask_45 : decode cX2_mask 45 = .ok (.iload 6, 2) := by decide +kernel
theorem dX2_mask_47 : decode cX2_mask 47 = .ok (.iadd, 1) := by decide +kernel
theorem dX2_mask_48 : decode cX2_mask 48 = .ok (.aload_n 1, 1) := by decide +kernel
theorem dX2_mask_49 : decode cX2_mask 49 = .ok (.arraylength, 1) := by decide +kernel
theorem dX2_mask_50 : decode cX2_mask 50 = .ok (.if_icmp .ge 26, 3) := by decide +kernel
theorem dX2_mask_53 : decode cX2_mask 53 = .ok (.aload_n 1, 1) := by decide +kernel
theorem dX2_mask_54 : decode cX2_mask 54 = .ok (.iload 5, 2) := by decide +kernel
theorem dX2_mask_56 : decode cX2_mask 56 = .ok (.iload 6, 2) := by decide +kernel
theorem dX2_mask_58 : decode cX2_mask 58 = .ok (.iadd, 1) := by decide +kernel
theorem dX2_mask_59 : decode cX2_mask 59 = .ok (.dup2, 1) := by decide +kernel
theorem dX2_mask_60 : decode cX2_mask 60 = .ok (.iaload, 1) := by decide +kernel
theorem dX2_mask_61 : decode cX2_mask 61 = .ok (.aload_n 0, 1) := by decide +kernel
theorem dX2_mask_62 : decode cX2_mask 62 = .ok (.getfield 13, 3) := by decide +kernel
theorem dX2_mask_65 : decode cX2_mask 65 = .ok (.iload 6, 2) := by decide +kernel
theorem dX2_mask_67 : decode cX2_mask 67 = .ok (.iaload, 1) := by decide +kernel
theorem dX2_mask_68 : decode cX2_mask 68 = .ok (.ixor, 1) := by decide +kernel
theorem dX2_mask_69 : decode cX2_mask 69 = .ok (.iastore, 1) := by decide +kernel
theorem dX2_mask_70 : decode cX2_mask 70 = .ok (.iinc 6 1, 3) := by decide +kernel
theorem dX2_mask_73 : decode cX2_mask 73 = .ok (.goto (-46), 3) := by decide +kernel
theorem dX2_mask_76 : decode cX2_mask 76 = .ok (.iinc 5 16, 3) := by decide +kernel
theorem dX2_mask_79 : decode cX2_mask 79 = .ok (.goto (-76), 3) := by decide +kernel
theorem dX2_mask_82 : decode cX2_mask 82 = .ok (.return_, 1) := by decide +kernel
theorem dX2_setCounter_0 : decode cX2_setCounter 0 = .ok (.aload_n 0, 1) := by decide +kernel
theorem dX2_setCounter_1 : decode cX2_setCounter 1 = .ok (.getfield 13, 3) := by decide +kernel
theorem dX2_setCounter_4 : decode cX2_setCounter 4 = .ok (.iconst 0, 1) := by decide +kernel
theorem dX2_setCounter_5 : decode cX2_setCounter 5 = .ok (.invokestatic 31, 3) := by decide +kernel
theorem dX2_setCounter_8 : decode cX2_setCounter 8 = .ok (.iconst 0, 1) := by decide +kernel
theorem dX2_setCounter_9 : decode cX2_setCounter 9 = .ok (.istore 4, 2) := by decide +kernel
theorem dX2_setCounter_11 : decode cX2_setCounter 11 = .ok (.iload 4, 2) := by decide +kernel
theorem dX2_setCounter_13 : decode cX2_setCounter 13 = .ok (.iconst 4, 1) := by decide +kernel
theorem dX2_setCounter_14 : decode cX2_setCounter 14 = .ok (.if_icmp .ge 54, 3) := by decide +kernel
theorem dX2_setCounter_17 : decode cX2_setCounter 17 = .ok (.aload_n 0, 1) := by decide +kernel
theorem dX2_setCounter_18 : decode cX2_setCounter 18 = .ok (.getfield 13, 3) := by decide +kernel
theorem dX2_setCounter_21 : decode cX2_setCounter 21 = .ok (.iload 4, 2) := by decide +kernel
theorem dX2_setCounter_23 : decode cX2_setCounter 23 = .ok (.iload_n 1, 1) := by decide +kernel
theorem dX2_setCounter_24 : decode cX2_setCounter 24 = .ok (.bipush 24, 2) := by decide +kernel
theorem dX2_setCounter_26 : decode cX2_setCounter 26 = .ok (.bipush 8, 2) := by decide +kernel
theorem dX2_setCounter_28 : decode cX2_setCounter 28 = .ok (.iload 4, 2) := by decide +kernel
theorem dX2_setCounter_30 : decode cX2_setCounter 30 = .ok (.imul, 1) := by decide +kernel
theorem dX2_setCounter_31 : decode cX2_setCounter 31 = .ok (.isub, 1) := by decide +kernel
theorem dX2_setCounter_32 : decode cX2_setCounter 32 = .ok (.ishr, 1) := by decide +kernel
theorem dX2_setCounter_33 : decode cX2_setCounter 33 = .ok (.sipush 255, 3) := by decide +kernel
theorem dX2_setCounter_36 : decode cX2_setCounter 36 = .ok (.iand, 1) := by decide +kernel
theorem dX2_setCounter_37 : decode cX2_setCounter 37 = .ok (.iastore, 1) := by decide +kernel
theorem dX2_setCounter_38 : decode cX2_setCounter 38 = .ok (.aload_n 0, 1) := by decide +kernel
theorem dX2_setCounter_39 : decode cX2_setCounter 39 = .ok (.getfield 13, 3) := by decide +kernel
theorem dX2_setCounter_42 : decode cX2_setCounter 42 = .ok (.bipush 12, 2) := by decide +kernel
theorem dX2_setCounter_44 : decode cX2_setCounter 44 = .ok (.iload 4, 2) := by decide +kernel
theorem dX2_setCounter_46 : decode cX2_setCounter 46 = .ok (.iadd, 1) := by decide +kernel
theorem dX2_setCounter_47 : decode cX2_setCounter 47 = .ok (.iload_n 3, 1) := by decide +kernel
theorem dX2_setCounter_48 : decode cX2_setCounter 48 = .ok (.bipush 24, 2) := by decide +kernel
theorem dX2_setCounter_50 : decode cX2_setCounter 50 = .ok (.bipush 8, 2) := by decide +kernel
theorem dX2_setCounter_52 : decode cX2_setCounter 52 = .ok (.iload 4, 2) := by decide +kernel
theorem dX2_setCounter_54 : decode cX2_setCounter 54 = .ok (.imul, 1) := by decide +kernel
theorem dX2_setCounter_55 : decode cX2_setCounter 55 = .ok (.isub, 1) := by decide +kernel
theorem dX2_setCounter_56 : decode cX2_setCounter 56 = .ok (.ishr, 1) := by decide +kernel
theorem dX2_setCounter_57 : decode cX2_setCounter 57 = .ok (.sipush 255, 3) := by decide +kernel
theorem dX2_setCounter_60 : decode cX2_setCounter 60 = .ok (.iand, 1) := by decide +kernel
theorem dX2_setCounter_61 : decode cX2_setCounter 61 = .ok (.iastore, 1) := by decide +kernel
theorem dX2_setCounter_62 : decode cX2_setCounter 62 = .ok (.iinc 4 1, 3) := by decide +kernel
theorem dX2_setCounter_65 : decode cX2_setCounter 65 = .ok (.goto (-54), 3) := by decide +kernel
theorem dX2_setCounter_68 : decode cX2_setCounter 68 = .ok (.aload_n 0, 1) := by decide +kernel
theorem dX2_setCounter_69 : decode cX2_setCounter 69 = .ok (.getfield 13, 3) := by decide +kernel
theorem dX2_setCounter_72 : decode cX2_setCounter 72 = .ok (.iconst 4, 1) := by decide +kernel
theorem dX2_setCounter_73 : decode cX2_setCounter 73 = .ok (.iload_n 2, 1) := by decide +kernel
theorem dX2_setCounter_74 : decode cX2_setCounter 74 = .ok (.sipush 255, 3) := by decide +kernel
theorem dX2_setCounter_77 : decode cX2_setCounter 77 = .ok (.iand, 1) := by decide +kernel
theorem dX2_setCounter_78 : decode cX2_setCounter 78 = .ok (.iastore, 1) := by decide +kernel
theorem dX2_setCounter_79 : decode cX2_setCounter 79 = .ok (.return_, 1) := by decide +kernel
theorem dX2_encrypt_0 : decode cX2_encrypt 0 = .ok (.iconst 0, 1) := by decide +kernel
theorem dX2_encrypt_1 : decode cX2_encrypt 1 = .ok (.istore_n 1, 1) := by decide +kernel
theorem dX2_encrypt_2 : decode cX2_encrypt 2 = .ok (.iload_n 1, 1) := by decide +kernel
theorem dX2_encrypt_3 : decode cX2_encrypt 3 = .ok (.bipush 16, 2) := by decide +kernel
theorem dX2_encrypt_5 : decode cX2_encrypt 5 = .ok (.if_icmp .ge 24, 3) := by decide +kernel
theorem dX2_encrypt_8 : decode cX2_encrypt 8 = .ok (.aload_n 0, 1) := by decide +kernel
theorem dX2_encrypt_9 : decode cX2_encrypt 9 = .ok (.getfield 13, 3) := by decide +kernel
theorem dX2_encrypt_12 : decode cX2_encrypt 12 = .ok (.iload_n 1, 1) := by decide +kernel
theorem dX2_encrypt_13 : decode cX2_encrypt 13 = .ok (.dup2, 1) := by decide +kernel
theorem dX2_encrypt_14 : decode cX2_encrypt 14 = .ok (.iaload, 1) := by decide +kernel
theorem dX2_encrypt_15 : decode cX2_encrypt 15 = .ok (.aload_n 0, 1) := by decide +kernel
theorem dX2_encrypt_16 : decode cX2_encrypt 16 = .ok (.getfield 7, 3) := by decide +kernel
theorem dX2_encrypt_19 : decode cX2_encrypt 19 = .ok (.iload_n 1, 1) := by decide +kernel
theorem dX2_encrypt_20 : decode cX2_encrypt 20 = .ok (.iaload, 1) := by decide +kernel
theorem dX2_encrypt_21 : decode cX2_encrypt 21 = .ok (.ixor, 1) := by decide +kernel
theorem dX2_encrypt_22 : decode cX2_encrypt 22 = .ok (.iastore, 1) := by decide +kernel
theorem dX2_encrypt_23 : decode cX2_encrypt 23 = .ok (.iinc 1 1, 3) := by decide +kernel
theorem dX2_encrypt_26 : decode cX2_encrypt 26 = .ok (.goto (-24), 3) := by decide +kernel
theorem dX2_encrypt_29 : decode cX2_encrypt 29 = .ok (.iconst 1, 1) := by decide +kernel
theorem dX2_encrypt_30 : decode cX2_encrypt 30 = .ok (.istore_n 1, 1) := by decide +kernel
theorem dX2_encrypt_31 : decode cX2_encrypt 31 = .ok (.iload_n 1, 1) := by decide +kernel
theorem dX2_encrypt_32 : decode cX2_encrypt 32 = .ok (.bipush 10, 2) := by decide +kernel
theorem dX2_encrypt_34 : decode cX2_encrypt 34 = .ok (.if_icmp .gt 186, 3) := by decide +kernel
theorem dX2_encrypt_37 : decode cX2_encrypt 37 = .ok (.iconst 0, 1) := by decide +kernel
theorem dX2_encrypt_38 : decode cX2_encrypt 38 = .ok (.istore_n 2, 1) := by decide +kernel
theorem dX2_encrypt_39 : decode cX2_encrypt 39 = .ok (.iload_n 2, 1) := by decide +kernel
theorem dX2_encrypt_40 : decode cX2_encrypt 40 = .ok (.bipush 16, 2) := by decide +kernel
theorem dX2_encrypt_42 : decode cX2_encrypt 42 = .ok (.if_icmp .ge 38, 3) := by decide +kernel
theorem dX2_encrypt_45 : decode cX2_encrypt 45 = .ok (.aload_n 0, 1) := by decide +kernel
theorem dX2_encrypt_46 : decode cX2_encrypt 46 = .ok (.getfield 16, 3) := by decide +kernel
theorem dX2_encrypt_49 : decode cX2_encrypt 49 = .ok (.iload_n 2, 1) := by decide +kernel
theorem dX2_encrypt_50 : decode cX2_encrypt 50 = .ok (.getstatic 19, 3) := by decide +kernel
theorem dX2_encrypt_53 : decode cX2_encrypt 53 = .ok (.aload_n 0, 1) := by decide +kernel
theorem dX2_encrypt_54 : decode cX2_encrypt 54 = .ok (.getfield 13, 3) := by decide +kernel
theorem dX2_encrypt_57 : decode cX2_encrypt 57 = .ok (.iload_n 2, 1) := by decide +kernel
theorem dX2_encrypt_58 : decode cX2_encrypt 58 = .ok (.iconst 4, 1) := by decide +kernel
theorem dX2_encrypt_59 : decode cX2_encrypt 59 = .ok (.iload_n 2, 1) := by decide +kernel
theorem dX2_encrypt_60 : decode cX2_encrypt 60 = .ok (.iconst 3, 1) := by decide +kernel
theorem dX2_encrypt_61 : decode cX2_encrypt 61 = .ok (.iand, 1) := by decide +kernel
theorem dX2_encrypt_62 : decode cX2_encrypt 62 = .ok (.imul, 1) := by decide +kernel
theorem dX2_encrypt_63 : decode cX2_encrypt 63 = .ok (.iadd, 1) := by decide +kernel
theorem dX2_encrypt_64 : decode cX2_encrypt 64 = .ok (.bipush 15, 2) := by decide +kernel
theorem dX2_encrypt_66 : decode cX2_encrypt 66 = .ok (.iand, 1) := by decide +kernel
theorem dX2_encrypt_67 : decode cX2_encrypt 67 = .ok (.iaload, 1) := by decide +kernel
theorem dX2_encrypt_68 : decode cX2_encrypt 68 = .ok (.sipush 255, 3) := by decide +kernel
theorem dX2_encrypt_71 : decode cX2_encrypt 71 = .ok (.iand, 1) := by decide +kernel
theorem dX2_encrypt_72 : decode cX2_encrypt 72 = .ok (.iaload, 1) := by decide +kernel
theorem dX2_encrypt_73 : decode cX2_encrypt 73 = .ok (.iastore, 1) := by decide +kernel
theorem dX2_encrypt_74 : decode cX2_encrypt 74 = .ok (.iinc 2 1, 3) := by decide +kernel
theorem dX2_encrypt_77 : decode cX2_encrypt 77 = .ok (.goto (-38), 3) := by decide +kernel
theorem dX2_encrypt_80 : decode cX2_encrypt 80 = .ok (.iconst 0, 1) := by decide +kernel
theorem dX2_encrypt_81 : decode cX2_encrypt 81 = .ok (.istore_n 2, 1) := by decide +kernel
theorem dX2_encrypt_82 : decode cX2_encrypt 82 = .ok (.iload_n 2, 1) := by decide +kernel
theorem dX2_encrypt_83 : decode cX2_encrypt 83 = .ok (.bipush 16, 2) := by decide +kernel
theorem dX2_encrypt_85 : decode cX2_encrypt 85 = .ok (.if_icmp .ge 129, 3) := by decide +kernel
theorem dX2_encrypt_88 : decode cX2_encrypt 88 = .ok (.iload_n 2, 1) := by decide +kernel
theorem dX2_encrypt_89 : decode cX2_encrypt 89 = .ok (.bipush 12, 2) := by decide +kernel
theorem dX2_encrypt_91 : decode cX2_encrypt 91 = .ok (.iand, 1) := by decide +kernel
theorem dX2_encrypt_92 : decode cX2_encrypt 92 = .ok (.istore_n 3, 1) := by decide +kernel
theorem dX2_encrypt_93 : decode cX2_encrypt 93 = .ok (.aload_n 0, 1) := by decide +kernel
theorem dX2_encrypt_94 : decode cX2_encrypt 94 = .ok (.getfield 16, 3) := by decide +kernel
theorem dX2_encrypt_97 : decode cX2_encrypt 97 = .ok (.iload_n 3, 1) := by decide +kernel
theorem dX2_encrypt_98 : decode cX2_encrypt 98 = .ok (.iaload, 1) := by decide +kernel
theorem dX2_encrypt_99 : decode cX2_encrypt 99 = .ok (.aload_n 0, 1) := by decide +kernel
theorem dX2_encrypt_100 : decode cX2_encrypt 100 = .ok (.getfield 16, 3) := by decide +kernel
theorem dX2_encrypt_103 : decode cX2_encrypt 103 = .ok (.iload_n 3, 1) := by decide +kernel
theorem dX2_encrypt_104 : decode cX2_encrypt 104 = .ok (.iconst 1, 1) := by decide +kernel
theorem dX2_encrypt_105 : decode cX2_encrypt 105 = .ok (.iadd, 1) := by decide +kernel
theorem dX2_encrypt_106 : decode cX2_encrypt 106 = .ok (.iaload, 1) := by decide +kernel
theorem dX2_encrypt_107 : decode cX2_encrypt 107 = .ok (.ixor, 1) := by decide +kernel
theorem dX2_encrypt_108 : decode cX2_encrypt 108 = .ok (.aload_n 0, 1) := by decide +kernel
theorem dX2_encrypt_109 : decode cX2_encrypt 109 = .ok (.getfield 16, 3) := by decide +kernel
theorem dX2_encrypt_112 : decode cX2_encrypt 112 = .ok (.iload_n 3, 1) := by decide +kernel
theorem dX2_encrypt_113 : decode cX2_encrypt 113 = .ok (.iconst 2, 1) := by decide +kernel
theorem dX2_encrypt_114 : decode cX2_encrypt 114 = .ok (.iadd, 1) := by decide +kernel
theorem dX2_encrypt_115 : decode cX2_encrypt 115 = .ok (.iaload, 1) := by decide +kernel
theorem dX2_encrypt_116 : decode cX2_encrypt 116 = .ok (.ixor, 1) := by decide +kernel
theorem dX2_encrypt_117 : decode cX2_encrypt 117 = .ok (.aload_n 0, 1) := by decide +kernel
theorem dX2_encrypt_118 : decode cX2_encrypt 118 = .ok (.getfield 16, 3) := by decide +kernel
theorem dX2_encrypt_121 : decode cX2_encrypt 121 = .ok (.iload_n 3, 1) := by decide +kernel
theorem dX2_encrypt_122 : decode cX2_encrypt 122 = .ok (.iconst 3, 1) := by decide +kernel
theorem dX2_encrypt_123 : decode cX2_encrypt 123 = .ok (.iadd, 1) := by decide +kernel
theorem dX2_encrypt_124 : decode cX2_encrypt 124 = .ok (.iaload, 1) := by decide +kernel
theorem dX2_encrypt_125 : decode cX2_encrypt 125 = .ok (.ixor, 1) := by decide +kernel
theorem dX2_encrypt_126 : decode cX2_encrypt 126 = .ok (.istore 4, 2) := by decide +kernel
theorem dX2_encrypt_128 : decode cX2_encrypt 128 = .ok (.aload_n 0, 1) := by decide +kernel
theorem dX2_encrypt_129 : decode cX2_encrypt 129 = .ok (.getfield 16, 3) := by decide +kernel
theorem dX2_encrypt_132 : decode cX2_encrypt 132 = .ok (.iload_n 2, 1) := by decide +kernel
theorem dX2_encrypt_133 : decode cX2_encrypt 133 = .ok (.iaload, 1) := by decide +kernel
theorem dX2_encrypt_134 : decode cX2_encrypt 134 = .ok (.aload_n 0, 1) := by decide +kernel
theorem dX2_encrypt_135 : decode cX2_encrypt 135 = .ok (.getfield 16, 3) := by decide +kernel
theorem dX2_encrypt_138 : decode cX2_encrypt 138 = .ok (.iload_n 3, 1) := by decide +kernel
theorem dX2_encrypt_139 : decode cX2_encrypt 139 = .ok (.iload_n 2, 1) := by decide +kernel
theorem dX2_encrypt_140 : decode cX2_encrypt 140 = .ok (.iconst 1, 1) := by decide +kernel
theorem dX2_encrypt_141 : decode cX2_encrypt 141 = .ok (.iadd, 1) := by decide +kernel
theorem dX2_encrypt_142 : decode cX2_encrypt 142 = .ok (.iconst 3, 1) := by decide +kernel
theorem dX2_encrypt_143 : decode cX2_encrypt 143 = .ok (.iand, 1) := by decide +kernel
theorem dX2_encrypt_144 : decode cX2_encrypt 144 = .ok (.iadd, 1) := by decide +kernel
theorem dX2_encrypt_145 : decode cX2_encrypt 145 = .ok (.iaload, 1) := by decide +kernel
theorem dX2_encrypt_146 : decode cX2_encrypt 146 = .ok (.ixor, 1) := by decide +kernel
theorem dX2_encrypt_147 : decode cX2_encrypt 147 = .ok (.istore 5, 2) := by decide +kernel
theorem dX2_encrypt_149 : decode cX2_encrypt 149 = .ok (.iload_n 1, 1) := by decide +kernel
theorem dX2_encrypt_150 : decode cX2_encrypt 150 = .ok (.bipush 10, 2) := by decide +kernel
theorem dX2_encrypt_152 : decode cX2_encrypt 152 = .ok (.if_icmp .ge 26, 3) := by decide +kernel
theorem dX2_encrypt_155 : decode cX2_encrypt 155 = .ok (.iload 4, 2) := by decide +kernel
theorem dX2_encrypt_157 : decode cX2_encrypt 157 = .ok (.iload 5, 2) := by decide +kernel
theorem dX2_encrypt_159 : decode cX2_encrypt 159 = .ok (.iconst 1, 1) := by decide +kernel
theorem dX2_encrypt_160 : decode cX2_encrypt 160 = .ok (.ishl, 1) := by decide +kernel
theorem dX2_encrypt_161 : decode cX2_encrypt 161 = .ok (.iload 5, 2) := by decide +kernel
theorem dX2_encrypt_163 : decode cX2_encrypt 163 = .ok (.bipush 7, 2) := by decide +kernel
theorem dX2_encrypt_165 : decode cX2_encrypt 165 = .ok (.ishr, 1) := by decide +kernel
theorem dX2_encrypt_166 : decode cX2_encrypt 166 = .ok (.bipush 27, 2) := by decide +kernel
theorem dX2_encrypt_168 : decode cX2_encrypt 168 = .ok (.imul, 1) := by decide +kernel
theorem dX2_encrypt_169 : decode cX2_encrypt 169 = .ok (.ixor, 1) := by decide +kernel
theorem dX2_encrypt_170 : decode cX2_encrypt 170 = .ok (.sipush 255, 3) := by decide +kernel
theorem dX2_encrypt_173 : decode cX2_encrypt 173 = .ok (.iand, 1) := by decide +kernel
theorem dX2_encrypt_174 : decode cX2_encrypt 174 = .ok (.ixor, 1) := by decide +kernel
theorem dX2_encrypt_175 : decode cX2_encrypt 175 = .ok (.goto 4, 3) := by decide +kernel
theorem dX2_encrypt_178 : decode cX2_encrypt 178 = .ok (.iconst 0, 1) := by decide +kernel
theorem dX2_encrypt_179 : decode cX2_encrypt 179 = .ok (.istore 6, 2) := by decide +kernel
theorem dX2_encrypt_181 : decode cX2_encrypt 181 = .ok (.aload_n 0, 1) := by decide +kernel
theorem dX2_encrypt_182 : decode cX2_encrypt 182 = .ok (.getfield 13, 3) := by decide +kernel
theorem dX2_encrypt_185 : decode cX2_encrypt 185 = .ok (.iload_n 2, 1) := by decide +kernel
theorem dX2_encrypt_186 : decode cX2_encrypt 186 = .ok (.aload_n 0, 1) := by decide +kernel
theorem dX2_encrypt_187 : decode cX2_encrypt 187 = .ok (.getfield 16, 3) := by decide +kernel
theorem dX2_encrypt_190 : decode cX2_encrypt 190 = .ok (.iload_n 2, 1) := by decide +kernel
theorem dX2_encrypt_191 : decode cX2_encrypt 191 = .ok (.iaload, 1) := by decide +kernel
theorem dX2_encrypt_192 : decode cX2_encrypt 192 = .ok (.iload 6, 2) := by decide +kernel
theorem dX2_encrypt_194 : decode cX2_encrypt 194 = .ok (.ixor, 1) := by decide +kernel
theorem dX2_encrypt_195 : decode cX2_encrypt 195 = .ok (.aload_n 0, 1) := by decide +kernel
theorem dX2_encrypt_196 : decode cX2_encrypt 196 = .ok (.getfield 7, 3) := by decide +kernel
theorem dX2_encrypt_199 : decode cX2_encrypt 199 = .ok (.bipush 16, 2) := by decide +kernel
theorem dX2_encrypt_201 : decode cX2_encrypt 201 = .ok (.iload_n 1, 1) := by decide +kernel
theorem dX2_encrypt_202 : decode cX2_encrypt 202 = .ok (.imul, 1) := by decide +kernel
theorem dX2_encrypt_203 : decode cX2_encrypt 203 = .ok (.iload_n 2, 1) := by decide +kernel
theorem dX2_encrypt_204 : decode cX2_encrypt 204 = .ok (.iadd, 1) := by decide +kernel
theorem dX2_encrypt_205 : decode cX2_encrypt 205 = .ok (.iaload, 1) := by decide +kernel
theorem dX2_encrypt_206 : decode cX2_encrypt 206 = .ok (.ixor, 1) := by decide +kernel
theorem dX2_encrypt_207 : decode cX2_encrypt 207 = .ok (.iastore, 1) := by decide +kernel
theorem dX2_encrypt_208 : decode cX2_encrypt 208 = .ok (.iinc 2 1, 3) := by decide +kernel
theorem dX2_encrypt_211 : decode cX2_encrypt 211 = .ok (.goto (-129), 3) := by decide +kernel
theorem dX2_encrypt_214 : decode cX2_encrypt 214 = .ok (.iinc 1 1, 3) := by decide +kernel
theorem dX2_encrypt_217 : decode cX2_encrypt 217 = .ok (.goto (-186), 3) := by decide +kernel
theorem dX2_encrypt_220 : decode cX2_encrypt 220 = .ok (.return_, 1) := by decide +kernel
theorem dX3_init_0 : decode cX3_init 0 = .ok (.aload_n 0, 1) := by decide +kernel
theorem dX3_init_1 : decode cX3_init 1 = .ok (.invokespecial 3, 3) := by decide +kernel
theorem dX3_init_4 : decode cX3_init 4 = .ok (.aload_n 0, 1) := by decide +kernel
theorem dX3_init_5 : decode cX3_init 5 = .ok (.bipush 121, 2) := by decide +kernel
theorem dX3_init_7 : decode cX3_init 7 = .ok (.newarray .int, 2) := by decide +kernel
theorem dX3_init_9 : decode cX3_init 9 = .ok (.putfield 9, 3) := by decide +kernel
theorem dX3_init_12 : decode cX3_init 12 = .ok (.aload_n 0, 1) := by decide +kernel
theorem dX3_init_13 : decode cX3_init 13 = .ok (.sipush 3840, 3) := by decide +kernel
theorem dX3_init_16 : decode cX3_init 16 = .ok (.newarray .int, 2) := by decide +kernel
theorem dX3_init_18 : decode cX3_init 18 = .ok (.putfield 15, 3) := by decide +kernel
theorem dX3_init_21 : decode cX3_init 21 = .ok (.aload_n 0, 1) := by decide +kernel
theorem dX3_init_22 : decode cX3_init 22 = .ok (.bipush 32, 2) := by decide +kernel
theorem dX3_init_24 : decode cX3_init 24 = .ok (.newarray .int, 2) := by decide +kernel
theorem dX3_init_26 : decode cX3_init 26 = .ok (.putfield 18, 3) := by decide +kernel
theorem dX3_init_29 : decode cX3_init 29 = .ok (.aload_n 0, 1) := by decide +kernel
theorem dX3_init_30 : decode cX3_init 30 = .ok (.bipush 120, 2) := by decide +kernel
theorem dX3_init_32 : decode cX3_init 32 = .ok (.newarray .int, 2) := by decide +kernel
theorem dX3_init_34 : decode cX3_init 34 = .ok (.putfield 21, 3) := by decide +kernel
theorem dX3_init_37 : decode cX3_init 37 = .ok (.aload_n 0, 1) := by decide +kernel
theorem dX3_init_38 : decode cX3_init 38 = .ok (.iload_n 1, 1) := by decide +kernel
theorem dX3_init_39 : decode cX3_init 39 = .ok (.putfield 24, 3) := by decide +kernel
theorem dX3_init_42 : decode cX3_init 42 = .ok (.return_, 1) := by decide +kernel
theorem dX3_completes_0 : decode cX3_completes 0 = .ok (.iload_n 1, 1) := by decide +kernel
theorem dX3_completes_1 : decode cX3_completes 1 = .ok (.sipush 256, 3) := by decide +kernel
theorem dX3_completes_4 : decode cX3_completes 4 = .ok (.iand, 1) := by decide +kernel
theorem dX3_completes_5 : decode cX3_completes 5 = .ok (.ifCond .eq 13, 3) := by decide +kernel
theorem dX3_completes_8 : decode cX3_completes 8 = .ok (.aload_n 0, 1) := by decide +kernel
theorem dX3_completes_9 : decode cX3_completes 9 = .ok (.iconst 1, 1) := by decide +kernel
theorem dX3_completes_10 : decode cX3_completes 10 = .ok (.putfield 28, 3) := by decide +kernel
theorem dX3_completes_13 : decode cX3_completes 13 = .ok (.aload_n 0, 1) := by decide +kernel
theorem dX3_completes_14 : decode cX3_completes 14 = .ok (.iconst 0, 1) := by decide +kernel
theorem dX3_completes_15 : decode cX3_completes 15 = .ok (.putfield 32, 3) := by decide +kernel
theorem dX3_completes_18 : decode cX3_completes 18 = .ok (.aload_n 0, 1) := by decide +kernel
theorem dX3_completes_19 : decode cX3_completes 19 = .ok (.getfield 28, 3) := by decide +kernel
theorem dX3_completes_22 : decode cX3_completes 22 = .ok (.ifCond .eq 15, 3) := by decide +kernel
theorem dX3_completes_25 : decode cX3_completes 25 = .ok (.aload_n 0, 1) := by decide +kernel
theorem dX3_completes_26 : decode cX3_completes 26 = .ok (.getfield 32, 3) := by decide +kernel
theorem dX3_completes_29 : decode cX3_completes 29 = .ok (.aload_n 0, 1) := by decide +kernel
theorem dX3_completes_30 : decode cX3_completes 30 = .ok (.getfield 9, 3) := by decide +kernel
theorem dX3_completes_33 : decode cX3_completes 33 = .ok (.arraylength, 1) := by decide +kernel
theorem dX3_completes_34 : decode cX3_completes 34 = .ok (.if_icmp .lt 5, 3) := by decide +kernel
theorem dX3_completes_37 : decode cX3_completes 37 = .ok (.iconst 0, 1) := by decide +kernel
theorem dX3_completes_38 : decode cX3_completes 38 = .ok (.ireturn, 1) := by decide +kernel
theorem dX3_completes_39 : decode cX3_completes 39 = .ok (.aload_n 0, 1) := by decide +kernel
theorem dX3_completes_40 : decode cX3_completes 40 = .ok (.getfield 9, 3) := by decide +kernel
theorem dX3_completes_43 : decode cX3_completes 43 = .ok (.aload_n 0, 1) := by decide +kernel
theorem dX3_completes_44 : decode cX3_completes 44 = .ok (.dup, 1) := by decide +kernel
theorem dX3_completes_45 : decode cX3_completes 45 = .ok (.getfield 32, 3) := by decide +kernel
theorem dX3_completes_48 : decode cX3_completes 48 = .ok (.dup_x1, 1) := by decide +kernel
theorem dX3_completes_49 : decode cX3_completes 49 = .ok (.iconst 1, 1) := by decide +kernel
theorem dX3_completes_50 : decode cX3_completes 50 = .ok (.iadd, 1) := by decide +kernel
theorem dX3_completes_51 : decode cX3_completes 51 = .ok (.putfield 32, 3) := by decide +kernel
theorem dX3_completes_54 : decode cX3_completes 54 = .ok (.iload_n 1, 1) := by decide +kernel
theorem dX3_completes_55 : decode cX3_completes 55 = .ok (.sipush 255, 3) := by decide +kernel
theorem dX3_completes_58 : decode cX3_completes 58 = .ok (.iand, 1) := by decide +kernel
theorem dX3_completes_59 : decode cX3_completes 59 = .ok (.iastore, 1) := by decide +kernel
theorem dX3_completes_60 : decode cX3_completes 60 = .ok (.aload_n 0, 1) := by decide +kernel
theorem dX3_completes_61 : decode cX3_completes 61 = .ok (.iload_n 1, 1) := by decide +kernel
theorem dX3_completes_62 : decode cX3_completes 62 = .ok (.sipush 512, 3) := by decide +kernel
theorem dX3_completes_65 : decode cX3_completes 65 = .ok (.iand, 1) := by decide +kernel
theorem dX3_completes_66 : decode cX3_completes 66 = .ok (.ifCond .ne 7, 3) := by decide +kernel
theorem dX3_completes_69 : decode cX3_completes 69 = .ok (.iconst 1, 1) := by decide +kernel
theorem dX3_completes_70 : decode cX3_completes 70 = .ok (.goto 4, 3) := by decide +kernel
theorem dX3_completes_73 : decode cX3_completes 73 = .ok (.iconst 0, 1) := by decide +kernel
theorem dX3_completes_74 : decode cX3_completes 74 = .ok (.putfield 28, 3) := by decide +kernel
theorem dX3_completes_77 : decode cX3_completes 77 = .ok (.aload_n 0, 1) := by decide +kernel
theorem dX3_completes_78 : decode cX3_completes 78 = .ok (.getfield 28, 3) := by decide +kernel
theorem dX3_completes_81 : decode cX3_completes 81 = .ok (.ifCond .ne 7, 3) := by decide +kernel
theorem dX3_completes_84 : decode cX3_completes 84 = .ok (.iconst 1, 1) := by decide +kernel
theorem dX3_completes_85 : decode cX3_completes 85 = .ok (.goto 4, 3) := by decide +kernel
theorem dX3_completes_88 : decode cX3_completes 88 = .ok (.iconst 0, 1) := by decide +kernel
theorem dX3_completes_89 : decode cX3_completes 89 = .ok (.ireturn, 1) := by decide +kernel
theorem dX3_meantCount_0 : decode cX3_meantCount 0 = .ok (.aload_n 0, 1) := by decide +kernel
theorem dX3_meantCount_1 : decode cX3_meantCount 1 = .ok (.getfield 35, 3) := by decide +kernel
theorem dX3_meantCount_4 : decode cX3_meantCount 4 = .ok (.bipush 32, 2) := by decide +kernel
theorem dX3_meantCount_6 : decode cX3_meantCount 6 = .ok (.isub, 1) := by decide +kernel
theorem dX3_meantCount_7 : decode cX3_meantCount 7 = .ok (.istore_n 1, 1) := by decide +kernel
theorem dX3_meantCount_8 : decode cX3_meantCount 8 = .ok (.iload_n 1, 1) := by decide +kernel
theorem dX3_meantCount_9 : decode cX3_meantCount 9 = .ok (.aload_n 0, 1) := by decide +kernel
theorem dX3_meantCount_10 : decode cX3_meantCount 10 = .ok (.getfield 9, 3) := by decide +kernel
theorem dX3_meantCount_13 : decode cX3_meantCount 13 = .ok (.iconst 0, 1) := by decide +kernel
theorem dX3_meantCount_14 : decode cX3_meantCount 14 = .ok (.iaload, 1) := by decide +kernel
theorem dX3_meantCount_15 : decode cX3_meantCount 15 = .ok (.iload_n 1, 1) := by decide +kernel
theorem dX3_meantCount_16 : decode cX3_meantCount 16 = .ok (.isub, 1) := by decide +kernel
theorem dX3_meantCount_17 : decode cX3_meantCount 17 = .ok (.bipush 63, 2) := by decide +kernel
theorem dX3_meantCount_19 : decode cX3_meantCount 19 = .ok (.iand, 1) := by decide +kernel
theorem dX3_meantCount_20 : decode cX3_meantCount 20 = .ok (.iadd, 1) := by decide +kernel
theorem dX3_meantCount_21 : decode cX3_meantCount 21 = .ok (.ireturn, 1) := by decide +kernel
theorem dX3_isDouble_0 : decode cX3_isDouble 0 = .ok (.iload_n 1, 1) := by decide +kernel
theorem dX3_isDouble_1 : decode cX3_isDouble 1 = .ok (.aload_n 0, 1) := by decide +kernel
theorem dX3_isDouble_2 : decode cX3_isDouble 2 = .ok (.getfield 35, 3) := by decide +kernel
theorem dX3_isDouble_5 : decode cX3_isDouble 5 = .ok (.if_icmp .lt 15, 3) := by decide +kernel
theorem dX3_isDouble_8 : decode cX3_isDouble 8 = .ok (.aload_n 0, 1) := by decide +kernel
theorem dX3_isDouble_9 : decode cX3_isDouble 9 = .ok (.getfield 18, 3) := by decide +kernel
theorem dX3_isDouble_12 : decode cX3_isDouble 12 = .ok (.iload_n 1, 1) := by decide +kernel
theorem dX3_isDouble_13 : decode cX3_isDouble 13 = .ok (.bipush 31, 2) := by decide +kernel
theorem dX3_isDouble_15 : decode cX3_isDouble 15 = .ok (.iand, 1) := by decide +kernel
theorem dX3_isDouble_16 : decode cX3_isDouble 16 = .ok (.iaload, 1) := by decide +kernel
theorem dX3_isDouble_17 : decode cX3_isDouble 17 = .ok (.ifCond .le 7, 3) := by decide +kernel
theorem dX3_isDouble_20 : decode cX3_isDouble 20 = .ok (.iconst 1, 1) := by decide +kernel
theorem dX3_isDouble_21 : decode cX3_isDouble 21 = .ok (.goto 4, 3) := by decide +kernel
theorem dX3_isDouble_24 : decode cX3_isDouble 24 = .ok (.iconst 0, 1) := by decide +kernel
theorem dX3_isDouble_25 : decode cX3_isDouble 25 = .ok (.ireturn, 1) := by decide +kernel
theorem dX3_store_0 : decode cX3_store 0 = .ok (.aload_n 0, 1) := by decide +kernel
theorem dX3_store_1 : decode cX3_store 1 = .ok (.getfield 32, 3) := by decide +kernel
theorem dX3_store_4 : decode cX3_store 4 = .ok (.iconst 1, 1) := by decide +kernel
theorem dX3_store_5 : decode cX3_store 5 = .ok (.isub, 1) := by decide +kernel
theorem dX3_store_6 : decode cX3_store 6 = .ok (.istore_n 2, 1) := by decide +kernel
theorem dX3_store_7 : decode cX3_store 7 = .ok (.iload_n 2, 1) := by decide +kernel
theorem dX3_store_8 : decode cX3_store 8 = .ok (.iconst 1, 1) := by decide +kernel
theorem dX3_store_9 : decode cX3_store 9 = .ok (.if_icmp .lt 9, 3) := by decide +kernel
theorem dX3_store_12 : decode cX3_store 12 = .ok (.iload_n 2, 1) := by decide +kernel
theorem dX3_store_13 : decode cX3_store 13 = .ok (.bipush 120, 2) := by decide +kernel
theorem dX3_store_15 : decode cX3_store 15 = .ok (.if_icmp .le 4, 3) := by decide +kernel
theorem dX3_store_18 : decode cX3_store 18 = .ok (.return_, 1) := by decide +kernel
theorem dX3_store_19 : decode cX3_store 19 = .ok (.iload_n 1, 1) := by decide +kernel
theorem dX3_store_20 : decode cX3_store 20 = .ok (.bipush 31, 2) := by decide +kernel
theorem dX3_store_22 : decode cX3_store 22 = .ok (.iand, 1) := by decide +kernel
theorem dX3_store_23 : decode cX3_store 23 = .ok (.istore_n 3, 1) := by decide +kernel
theorem dX3_store_24 : decode cX3_store 24 = .ok (.aload_n 0, 1) := by decide +kernel
theorem dX3_store_25 : decode cX3_store 25 = .ok (.getfield 9, 3) := by decide +kernel
theorem dX3_store_28 : decode cX3_store 28 = .ok (.iconst 1, 1) := by decide +kernel
theorem dX3_store_29 : decode cX3_store 29 = .ok (.aload_n 0, 1) := by decide +kernel
theorem dX3_store_30 : decode cX3_store 30 = .ok (.getfield 15, 3) := by decide +kernel
theorem dX3_store_33 : decode cX3_store 33 = .ok (.iload_n 3, 1) := by decide +kernel
theorem dX3_store_34 : decode cX3_store 34 = .ok (.bipush 120, 2) := by decide +kernel
theorem dX3_store_36 : decode cX3_store 36 = .ok (.imul, 1) := by decide +kernel
theorem dX3_store_37 : decode cX3_store 37 = .ok (.iload_n 2, 1) := by decide +kernel
theorem dX3_store_38 : decode cX3_store 38 = .ok (.invokestatic 38, 3) := by decide +kernel
theorem dX3_store_41 : decode cX3_store 41 = .ok (.aload_n 0, 1) := by decide +kernel
theorem dX3_store_42 : decode cX3_store 42 = .ok (.getfield 18, 3) := by decide +kernel
theorem dX3_store_45 : decode cX3_store 45 = .ok (.iload_n 3, 1) := by decide +kernel
theorem dX3_store_46 : decode cX3_store 46 = .ok (.iload_n 2, 1) := by decide +kernel
theorem dX3_store_47 : decode cX3_store 47 = .ok (.iastore, 1) := by decide +kernel
theorem dX3_store_48 : decode cX3_store 48 = .ok (.aload_n 0, 1) := by decide +kernel
theorem dX3_store_49 : decode cX3_store 49 = .ok (.dup, 1) := by decide +kernel
theorem dX3_store_50 : decode cX3_store 50 = .ok (.getfield 44, 3) := by decide +kernel
theorem dX3_store_53 : decode cX3_store 53 = .ok (.iconst 1, 1) := by decide +kernel
theorem dX3_store_54 : decode cX3_store 54 = .ok (.iadd, 1) := by decide +kernel
theorem dX3_store_55 : decode cX3_store 55 = .ok (.putfield 44, 3) := by decide +kernel
theorem dX3_store_58 : decode cX3_store 58 = .ok (.return_, 1) := by decide +kernel
theorem dX3_deliverStored_0 : decode cX3_deliverStored 0 = .ok (.iconst 0, 1) := by decide +kernel
theorem dX3_deliverStored_1 : decode cX3_deliverStored 1 = .ok (.istore_n 1, 1) := by decide +kernel
theorem dX3_deliverStored_2 : decode cX3_deliverStored 2 = .ok (.iload_n 1, 1) := by decide +kernel
theorem dX3_deliverStored_3 : decode cX3_deliverStored 3 = .ok (.bipush 32, 2) := by decide +kernel
theorem dX3_deliverStored_5 : decode cX3_deliverStored 5 = .ok (.if_icmp .ge 157, 3) := by decide +kernel
theorem dX3_deliverStored_8 : decode cX3_deliverStored 8 = .ok (.aload_n 0, 1) := by decide +kernel
theorem dX3_deliverStored_9 : decode cX3_deliverStored 9 = .ok (.getfield 18, 3) := by decide +kernel
theorem dX3_deliverStored_12 : decode cX3_deliverStored 12 = .ok (.aload_n 0, 1) := by decide +kernel
theorem dX3_deliverStored_13 : decode cX3_deliverStored 13 = .ok (.getfield 35, 3) := by decide +kernel
theorem dX3_deliverStored_16 : decode cX3_deliverStored 16 = .ok (.bipush 31, 2) := by decide +kernel
theorem dX3_deliverStored_18 : decode cX3_deliverStored 18 = .ok (.iand, 1) := by decide +kernel
theorem dX3_deliverStored_19 : decode cX3_deliverStored 19 = .ok (.iaload, 1) := by decide +kernel
theorem dX3_deliverStored_20 : decode cX3_deliverStored 20 = .ok (.ifCond .le 142, 3) := by decide +kernel
theorem dX3_deliverStored_23 : decode cX3_deliverStored 23 = .ok (.aload_n 0, 1) := by decide +kernel
theorem dX3_deliverStored_24 : decode cX3_deliverStored 24 = .ok (.getfield 35, 3) := by decide +kernel
theorem dX3_deliverStored_27 : decode cX3_deliverStored 27 = .ok (.bipush 31, 2) := by decide +kernel
theorem dX3_deliverStored_29 : decode cX3_deliverStored 29 = .ok (.iand, 1) := by decide +kernel
theorem dX3_deliverStored_30 : decode cX3_deliverStored 30 = .ok (.istore_n 2, 1) := by decide +kernel
theorem dX3_deliverStored_31 : decode cX3_deliverStored 31 = .ok (.aload_n 0, 1) := by decide +kernel
theorem dX3_deliverStored_32 : decode cX3_deliverStored 32 = .ok (.aload_n 0, 1) := by decide +kernel
theorem dX3_deliverStored_33 : decode cX3_deliverStored 33 = .ok (.getfield 18, 3) := by decide +kernel
theorem dX3_deliverStored_36 : decode cX3_deliverStored 36 = .ok (.iload_n 2, 1) := by decide +kernel
theorem dX3_deliverStored_37 : decode cX3_deliverStored 37 = .ok (.iaload, 1) := by decide +kernel
theorem dX3_deliverStored_38 : decode cX3_deliverStored 38 = .ok (.bipush 120, 2) := by decide +kernel
theorem dX3_deliverStored_40 : decode cX3_deliverStored 40 = .ok (.invokestatic 47, 3) := by decide +kernel
theorem dX3_deliverStored_43 : decode cX3_deliverStored 43 = .ok (.putfield 53, 3) := by decide +kernel
theorem dX3_deliverStored_46 : decode cX3_deliverStored 46 = .ok (.aload_n 0, 1) := by decide +kernel
theorem dX3_deliverStored_47 : decode cX3_deliverStored 47 = .ok (.getfield 15, 3) := by decide +kernel
theorem dX3_deliverStored_50 : decode cX3_deliverStored 50 = .ok (.iload_n 2, 1) := by decide +kernel
theorem dX3_deliverStored_51 : decode cX3_deliverStored 51 = .ok (.bipush 120, 2) := by decide +kernel
theorem dX3_deliverStored_53 : decode cX3_deliverStored 53 = .ok (.imul, 1) := by decide +kernel
theorem dX3_deliverStored_54 : decode cX3_deliverStored 54 = .ok (.aload_n 0, 1) := by decide +kernel
theorem dX3_deliverStored_55 : decode cX3_deliverStored 55 = .ok (.getfield 21, 3) := by decide +kernel
theorem dX3_deliverStored_58 : decode cX3_deliverStored 58 = .ok (.iconst 0, 1) := by decide +kernel
theorem dX3_deliverStored_59 : decode cX3_deliverStored 59 = .ok (.aload_n 0, 1) := by decide +kernel
theorem dX3_deliverStored_60 : decode cX3_deliverStored 60 = .ok (.getfield 53, 3) := by decide +kernel
theorem dX3_deliverStored_63 : decode cX3_deliverStored 63 = .ok (.invokestatic 38, 3) := by decide +kernel
theorem dX3_deliverStored_66 : decode cX3_deliverStored 66 = .ok (.aload_n 0, 1) := by decide +kernel
theorem dX3_deliverStored_67 : decode cX3_deliverStored 67 = .ok (.getfield 18, 3) := by decide +kernel
theorem dX3_deliverStored_70 : decode cX3_deliverStored 70 = .ok (.iload_n 2, 1) := by decide +kernel
theorem dX3_deliverStored_71 : decode cX3_deliverStored 71 = .ok (.iconst 0, 1) := by decide +kernel
theorem dX3_deliverStored_72 : decode cX3_deliverStored 72 = .ok (.iastore, 1) := by decide +kernel
theorem dX3_deliverStored_73 : decode cX3_deliverStored 73 = .ok (.aload_n 0, 1) := by decide +kernel
theorem dX3_deliverStored_74 : decode cX3_deliverStored 74 = .ok (.dup, 1) := by decide +kernel
theorem dX3_deliverStored_75 : decode cX3_deliverStored 75 = .ok (.getfield 44, 3) := by decide +kernel
theorem dX3_deliverStored_78 : decode cX3_deliverStored 78 = .ok (.iconst 1, 1) := by decide +kernel
theorem dX3_deliverStored_79 : decode cX3_deliverStored 79 = .ok (.isub, 1) := by decide +kernel
theorem dX3_deliverStored_80 : decode cX3_deliverStored 80 = .ok (.putfield 44, 3) := by decide +kernel
theorem dX3_deliverStored_83 : decode cX3_deliverStored 83 = .ok (.aload_n 0, 1) := by decide +kernel
theorem dX3_deliverStored_84 : decode cX3_deliverStored 84 = .ok (.dup, 1) := by decide +kernel
theorem dX3_deliverStored_85 : decode cX3_deliverStored 85 = .ok (.getfield 35, 3) := by decide +kernel
theorem dX3_deliverStored_88 : decode cX3_deliverStored 88 = .ok (.iconst 1, 1) := by decide +kernel
theorem dX3_deliverStored_89 : decode cX3_deliverStored 89 = .ok (.iadd, 1) := by decide +kernel
theorem dX3_deliverStored_90 : decode cX3_deliverStored 90 = .ok (.putfield 35, 3) := by decide +kernel
theorem dX3_deliverStored_93 : decode cX3_deliverStored 93 = .ok (.aload_n 0, 1) := by decide +kernel
theorem dX3_deliverStored_94 : decode cX3_deliverStored 94 = .ok (.dup, 1) := by decide +kernel
theorem dX3_deliverStored_95 : decode cX3_deliverStored 95 = .ok (.getfield 56, 3) := by decide +kernel
theorem dX3_deliverStored_98 : decode cX3_deliverStored 98 = .ok (.aload_n 0, 1) := by decide +kernel
theorem dX3_deliverStored_99 : decode cX3_deliverStored 99 = .ok (.getfield 53, 3) := by decide +kernel
theorem dX3_deliverStored_102 : decode cX3_deliverStored 102 = .ok (.iadd, 1) := by decide +kernel
theorem dX3_deliverStored_103 : decode cX3_deliverStored 103 = .ok (.putfield 56, 3) := by decide +kernel
theorem dX3_deliverStored_106 : decode cX3_deliverStored 106 = .ok (.aload_n 0, 1) := by decide +kernel
theorem dX3_deliverStored_107 : decode cX3_deliverStored 107 = .ok (.bipush 31, 2) := by decide +kernel
theorem dX3_deliverStored_109 : decode cX3_deliverStored 109 = .ok (.aload_n 0, 1) := by decide +kernel
theorem dX3_deliverStored_110 : decode cX3_deliverStored 110 = .ok (.getfield 59, 3) := by decide +kernel
theorem dX3_deliverStored_113 : decode cX3_deliverStored 113 = .ok (.imul, 1) := by decide +kernel
theorem dX3_deliverStored_114 : decode cX3_deliverStored 114 = .ok (.aload_n 0, 1) := by decide +kernel
theorem dX3_deliverStored_115 : decode cX3_deliverStored 115 = .ok (.getfield 53, 3) := by decide +kernel
theorem dX3_deliverStored_118 : decode cX3_deliverStored 118 = .ok (.iadd, 1) := by decide +kernel
theorem dX3_deliverStored_119 : decode cX3_deliverStored 119 = .ok (.putfield 59, 3) := by decide +kernel
theorem dX3_deliverStored_122 : decode cX3_deliverStored 122 = .ok (.iconst 0, 1) := by decide +kernel
theorem dX3_deliverStored_123 : decode cX3_deliverStored 123 = .ok (.istore_n 3, 1) := by decide +kernel
theorem dX3_deliverStored_124 : decode cX3_deliverStored 124 = .ok (.iload_n 3, 1) := by decide +kernel
theorem dX3_deliverStored_125 : decode cX3_deliverStored 125 = .ok (.aload_n 0, 1) := by decide +kernel
theorem dX3_deliverStored_126 : decode cX3_deliverStored 126 = .ok (.getfield 53, 3) := by decide +kernel
theorem dX3_deliverStored_129 : decode cX3_deliverStored 129 = .ok (.if_icmp .ge 27, 3) := by decide +kernel
theorem dX3_deliverStored_132 : decode cX3_deliverStored 132 = .ok (.aload_n 0, 1) := by decide +kernel
theorem dX3_deliverStored_133 : decode cX3_deliverStored 133 = .ok (.bipush 31, 2) := by decide +kernel
theorem dX3_deliverStored_135 : decode cX3_deliverStored 135 = .ok (.aload_n 0, 1) := by decide +kernel
theorem dX3_deliverStored_136 : decode cX3_deliverStored 136 = .ok (.getfield 59, 3) := by decide +kernel
theorem dX3_deliverStored_139 : decode cX3_deliverStored 139 = .ok (.imul, 1) := by decide +kernel
theorem dX3_deliverStored_140 : decode cX3_deliverStored 140 = .ok (.aload_n 0, 1) := by decide +kernel
theorem dX3_deliverStored_141 : decode cX3_deliverStored 141 = .ok (.getfield 21, 3) := by decide +kernel
theorem dX3_deliverStored_144 : decode cX3_deliverStored 144 = .ok (.iload_n 3, 1) := by decide +kernel
theorem dX3_deliverStored_145 : decode cX3_deliverStored 145 = .ok (.iaload, 1) := by decide +kernel
theorem dX3_deliverStored_146 : decode cX3_deliverStored 146 = .ok (.iadd, 1) := by decide +kernel
theorem dX3_deliverStored_147 : decode cX3_deliverStored 147 = .ok (.putfield 59, 3) := by decide +kernel
theorem dX3_deliverStored_150 : decode cX3_deliverStored 150 = .ok (.iinc 3 1, 3) := by decide +kernel
theorem dX3_deliverStored_153 : decode cX3_deliverStored 153 = .ok (.goto (-29), 3) := by decide +kernel
theorem dX3_deliverStored_156 : decode cX3_deliverStored 156 = .ok (.iinc 1 1, 3) := by decide +kernel
theorem dX3_deliverStored_159 : decode cX3_deliverStored 159 = .ok (.goto (-157), 3) := by decide +kernel
theorem dX3_deliverStored_162 : decode cX3_deliverStored 162 = .ok (.return_, 1) := by decide +kernel
theorem dX3_writeReport_0 : decode cX3_writeReport 0 = .ok (.iconst 0, 1) := by decide +kernel
theorem dX3_writeReport_1 : decode cX3_writeReport 1 = .ok (.istore_n 2, 1) := by decide +kernel
theorem dX3_writeReport_2 : decode cX3_writeReport 2 = .ok (.iconst 0, 1) := by decide +kernel
theorem dX3_writeReport_3 : decode cX3_writeReport 3 = .ok (.istore_n 3, 1) := by decide +kernel
theorem dX3_writeReport_4 : decode cX3_writeReport 4 = .ok (.iload_n 3, 1) := by decide +kernel
theorem dX3_writeReport_5 : decode cX3_writeReport 5 = .ok (.bipush 31, 2) := by decide +kernel
theorem dX3_writeReport_7 : decode cX3_writeReport 7 = .ok (.if_icmp .ge 32, 3) := by decide +kernel
theorem dX3_writeReport_10 : decode cX3_writeReport 10 = .ok (.aload_n 0, 1) := by decide +kernel
theorem dX3_writeReport_11 : decode cX3_writeReport 11 = .ok (.getfield 18, 3) := by decide +kernel
theorem dX3_writeReport_14 : decode cX3_writeReport 14 = .ok (.aload_n 0, 1) := by decide +kernel
theorem dX3_writeReport_15 : decode cX3_writeReport 15 = .ok (.getfield 35, 3) := by decide +kernel
theorem dX3_writeReport_18 : decode cX3_writeReport 18 = .ok (.iconst 1, 1) := by decide +kernel
theorem dX3_writeReport_19 : decode cX3_writeReport 19 = .ok (.iadd, 1) := by decide +kernel
theorem dX3_writeReport_20 : decode cX3_writeReport 20 = .ok (.iload_n 3, 1) := by decide +kernel
theorem dX3_writeReport_21 : decode cX3_writeReport 21 = .ok (.iadd, 1) := by decide +kernel
theorem dX3_writeReport_22 : decode cX3_writeReport 22 = .ok (.bipush 31, 2) := by decide +kernel
theorem dX3_writeReport_24 : decode cX3_writeReport 24 = .ok (.iand, 1) := by decide +kernel
theorem dX3_writeReport_25 : decode cX3_writeReport 25 = .ok (.iaload, 1) := by decide +kernel
theorem dX3_writeReport_26 : decode cX3_writeReport 26 = .ok (.ifCond .le 7, 3) := by decide +kernel
theorem dX3_writeReport_29 : decode cX3_writeReport 29 = .ok (.iload_n 3, 1) := by decide +kernel
theorem dX3_writeReport_30 : decode cX3_writeReport 30 = .ok (.iconst 1, 1) := by decide +kernel
theorem dX3_writeReport_31 : decode cX3_writeReport 31 = .ok (.iadd, 1) := by decide +kernel
theorem dX3_writeReport_32 : decode cX3_writeReport 32 = .ok (.istore_n 2, 1) := by decide +kernel
theorem dX3_writeReport_33 : decode cX3_writeReport 33 = .ok (.iinc 3 1, 3) := by decide +kernel
theorem dX3_writeReport_36 : decode cX3_writeReport 36 = .ok (.goto (-32), 3) := by decide +kernel
theorem dX3_writeReport_39 : decode cX3_writeReport 39 = .ok (.aload_n 1, 1) := by decide +kernel
theorem dX3_writeReport_40 : decode cX3_writeReport 40 = .ok (.iconst 0, 1) := by decide +kernel
theorem dX3_writeReport_41 : decode cX3_writeReport 41 = .ok (.invokestatic 62, 3) := by decide +kernel
theorem dX3_writeReport_44 : decode cX3_writeReport 44 = .ok (.iconst 2, 1) := by decide +kernel
theorem dX3_writeReport_45 : decode cX3_writeReport 45 = .ok (.iload_n 2, 1) := by decide +kernel
theorem dX3_writeReport_46 : decode cX3_writeReport 46 = .ok (.bipush 7, 2) := by decide +kernel
theorem dX3_writeReport_48 : decode cX3_writeReport 48 = .ok (.iadd, 1) := by decide +kernel
theorem dX3_writeReport_49 : decode cX3_writeReport 49 = .ok (.iconst 3, 1) := by decide +kernel
theorem dX3_writeReport_50 : decode cX3_writeReport 50 = .ok (.ishr, 1) := by decide +kernel
theorem dX3_writeReport_51 : decode cX3_writeReport 51 = .ok (.iadd, 1) := by decide +kernel
theorem dX3_writeReport_52 : decode cX3_writeReport 52 = .ok (.istore_n 3, 1) := by decide +kernel
theorem dX3_writeReport_53 : decode cX3_writeReport 53 = .ok (.iload_n 3, 1) := by decide +kernel
theorem dX3_writeReport_54 : decode cX3_writeReport 54 = .ok (.aload_n 1, 1) := by decide +kernel
theorem dX3_writeReport_55 : decode cX3_writeReport 55 = .ok (.arraylength, 1) := by decide +kernel
theorem dX3_writeReport_56 : decode cX3_writeReport 56 = .ok (.if_icmp .le 5, 3) := by decide +kernel
theorem dX3_writeReport_59 : decode cX3_writeReport 59 = .ok (.iconst 0, 1) := by decide +kernel
theorem dX3_writeReport_60 : decode cX3_writeReport 60 = .ok (.ireturn, 1) := by decide +kernel
theorem dX3_writeReport_61 : decode cX3_writeReport 61 = .ok (.aload_n 1, 1) := by decide +kernel
theorem dX3_writeReport_62 : decode cX3_writeReport 62 = .ok (.iconst 0, 1) := by decide +kernel
theorem dX3_writeReport_63 : decode cX3_writeReport 63 = .ok (.aload_n 0, 1) := by decide +kernel
theorem dX3_writeReport_64 : decode cX3_writeReport 64 = .ok (.getfield 35, 3) := by decide +kernel
theorem dX3_writeReport_67 : decode cX3_writeReport 67 = .ok (.bipush 8, 2) := by decide +kernel
theorem dX3_writeReport_69 : decode cX3_writeReport 69 = .ok (.ishr, 1) := by decide +kernel
theorem dX3_writeReport_70 : decode cX3_writeReport 70 = .ok (.bipush 63, 2) := by decide +kernel
theorem dX3_writeReport_72 : decode cX3_writeReport 72 = .ok (.iand, 1) := by decide +kernel
theorem dX3_writeReport_73 : decode cX3_writeReport 73 = .ok (.iastore, 1) := by decide +kernel
theorem dX3_writeReport_74 : decode cX3_writeReport 74 = .ok (.aload_n 1, 1) := by decide +kernel
theorem dX3_writeReport_75 : decode cX3_writeReport 75 = .ok (.iconst 1, 1) := by decide +kernel
theorem dX3_writeReport_76 : decode cX3_writeReport 76 = .ok (.aload_n 0, 1) := by decide +kernel
theorem dX3_writeReport_77 : decode cX3_writeReport 77 = .ok (.getfield 35, 3) := by decide +kernel
theorem dX3_writeReport_80 : decode cX3_writeReport 80 = .ok (.sipush 255, 3) := by decide +kernel
theorem dX3_writeReport_83 : decode cX3_writeReport 83 = .ok (.iand, 1) := by decide +kernel
theorem dX3_writeReport_84 : decode cX3_writeReport 84 = .ok (.iastore, 1) := by decide +kernel
theorem dX3_writeReport_85 : decode cX3_writeReport 85 = .ok (.iconst 0, 1) := by decide +kernel
theorem dX3_writeReport_86 : decode cX3_writeReport 86 = .ok (.istore 4, 2) := by decide +kernel
theorem dX3_writeReport_88 : decode cX3_writeReport 88 = .ok (.iload 4, 2) := by decide +kernel
theorem dX3_writeReport_90 : decode cX3_writeReport 90 = .ok (.iload_n 2, 1) := by decide +kernel
theorem dX3_writeReport_91 : decode cX3_writeReport 91 = .ok (.if_icmp .ge 49, 3) := by decide +kernel
theorem dX3_writeReport_94 : decode cX3_writeReport 94 = .ok (.aload_n 0, 1) := by decide +kernel
theorem dX3_writeReport_95 : decode cX3_writeReport 95 = .ok (.getfield 18, 3) := by decide +kernel
theorem dX3_writeReport_98 : decode cX3_writeReport 98 = .ok (.aload_n 0, 1) := by decide +kernel
theorem dX3_writeReport_99 : decode cX3_writeReport 99 = .ok (.getfield 35, 3) := by decide +kernel
theorem dX3_writeReport_102 : decode cX3_writeReport 102 = .ok (.iconst 1, 1) := by decide +kernel
theorem dX3_writeReport_103 : decode cX3_writeReport 103 = .ok (.iadd, 1) := by decide +kernel
theorem dX3_writeReport_104 : decode cX3_writeReport 104 = .ok (.iload 4, 2) := by decide +kernel
theorem dX3_writeReport_106 : decode cX3_writeReport 106 = .ok (.iadd, 1) := by decide +kernel
theorem dX3_writeReport_107 : decode cX3_writeReport 107 = .ok (.bipush 31, 2) := by decide +kernel
theorem dX3_writeReport_109 : decode cX3_writeReport 109 = .ok (.iand, 1) := by decide +kernel
theorem dX3_writeReport_110 : decode cX3_writeReport 110 = .ok (.iaload, 1) := by decide +kernel
theorem dX3_writeReport_111 : decode cX3_writeReport 111 = .ok (.ifCond .le 23, 3) := by decide +kernel
theorem dX3_writeReport_114 : decode cX3_writeReport 114 = .ok (.aload_n 1, 1) := by decide +kernel
theorem dX3_writeReport_115 : decode cX3_writeReport 115 = .ok (.iconst 2, 1) := by decide +kernel
theorem dX3_writeReport_116 : decode cX3_writeReport 116 = .ok (.iload 4, 2) := by decide +kernel
theorem dX3_writeReport_118 : decode cX3_writeReport 118 = .ok (.iconst 3, 1) := by decide +kernel
theorem dX3_writeReport_119 : decode cX3_writeReport 119 = .ok (.ishr, 1) := by decide +kernel
theorem dX3_writeReport_120 : decode cX3_writeReport 120 = .ok (.iadd, 1) := by decide +kernel
theorem dX3_writeReport_121 : decode cX3_writeReport 121 = .ok (.dup2, 1) := by decide +kernel
theorem dX3_writeReport_122 : decode cX3_writeReport 122 = .ok (.iaload, 1) := by decide +kernel
theorem dX3_writeReport_123 : decode cX3_writeReport 123 = .ok (.sipush 128, 3) := by decide +kernel
theorem dX3_writeReport_126 : decode cX3_writeReport 126 = .ok (.iload 4, 2) := by decide +kernel
theorem dX3_writeReport_128 : decode cX3_writeReport 128 = .ok (.bipush 7, 2) := by decide +kernel
theorem dX3_writeReport_130 : decode cX3_writeReport 130 = .ok (.iand, 1) := by decide +kernel
theorem dX3_writeReport_131 : decode cX3_writeReport 131 = .ok (.ishr, 1) := by decide +kernel
theorem dX3_writeReport_132 : decode cX3_writeReport 132 = .ok (.ior, 1) := by decide +kernel
theorem dX3_writeReport_133 : decode cX3_writeReport 133 = .ok (.iastore, 1) := by decide +kernel
theorem dX3_writeReport_134 : decode cX3_writeReport 134 = .ok (.iinc 4 1, 3) := by decide +kernel
theorem dX3_writeReport_137 : decode cX3_writeReport 137 = .ok (.goto (-49), 3) := by decide +kernel
theorem dX3_writeReport_140 : decode cX3_writeReport 140 = .ok (.iload_n 3, 1) := by decide +kernel
theorem dX3_writeReport_141 : decode cX3_writeReport 141 = .ok (.ireturn, 1) := by decide +kernel
theorem dX4_init_0 : decode cX4_init 0 = .ok (.aload_n 0, 1) := by decide +kernel
theorem dX4_init_1 : decode cX4_init 1 = .ok (.invokespecial 3, 3) := by decide +kernel
theorem dX4_init_4 : decode cX4_init 4 = .ok (.aload_n 0, 1) := by decide +kernel
theorem dX4_init_5 : decode cX4_init 5 = .ok (.sipush 3840, 3) := by decide +kernel
theorem dX4_init_8 : decode cX4_init 8 = .ok (.newarray .int, 2) := by decide +kernel
theorem dX4_init_10 : decode cX4_init 10 = .ok (.putfield 9, 3) := by decide +kernel
theorem dX4_init_13 : decode cX4_init 13 = .ok (.aload_n 0, 1) := by decide +kernel
theorem dX4_init_14 : decode cX4_init 14 = .ok (.bipush 32, 2) := by decide +kernel
theorem dX4_init_16 : decode cX4_init 16 = .ok (.newarray .int, 2) := by decide +kernel
theorem dX4_init_18 : decode cX4_init 18 = .ok (.putfield 15, 3) := by decide +kernel
theorem dX4_init_21 : decode cX4_init 21 = .ok (.aload_n 0, 1) := by decide +kernel
theorem dX4_init_22 : decode cX4_init 22 = .ok (.bipush 32, 2) := by decide +kernel
theorem dX4_init_24 : decode cX4_init 24 = .ok (.newarray .boolean, 2) := by decide +kernel
theorem dX4_init_26 : decode cX4_init 26 = .ok (.putfield 18, 3) := by decide +kernel
theorem dX4_init_29 : decode cX4_init 29 = .ok (.aload_n 0, 1) := by decide +kernel
theorem dX4_init_30 : decode cX4_init 30 = .ok (.bipush 32, 2) := by decide +kernel
theorem dX4_init_32 : decode cX4_init 32 = .ok (.newarray .int, 2) := by decide +kernel
theorem dX4_init_34 : decode cX4_init 34 = .ok (.putfield 22, 3) := by decide +kernel
theorem dX4_init_37 : decode cX4_init 37 = .ok (.aload_n 0, 1) := by decide +kernel
theorem dX4_init_38 : decode cX4_init 38 = .ok (.bipush 32, 2) := by decide +kernel
theorem dX4_init_40 : decode cX4_init 40 = .ok (.newarray .int, 2) := by decide +kernel
theorem dX4_init_42 : decode cX4_init 42 = .ok (.putfield 25, 3) := by decide +kernel
theorem dX4_init_45 : decode cX4_init 45 = .ok (.aload_n 0, 1) := by decide +kernel
theorem dX4_init_46 : decode cX4_init 46 = .ok (.bipush 121, 2) := by decide +kernel
theorem dX4_init_48 : decode cX4_init 48 = .ok (.newarray .int, 2) := by decide +kernel
theorem dX4_init_50 : decode cX4_init 50 = .ok (.putfield 28, 3) := by decide +kernel
theorem dX4_init_53 : decode cX4_init 53 = .ok (.aload_n 0, 1) := by decide +kernel
theorem dX4_init_54 : decode cX4_init 54 = .ok (.bipush 8, 2) := by decide +kernel
theorem dX4_init_56 : decode cX4_init 56 = .ok (.newarray .int, 2) := by decide +kernel
theorem dX4_init_58 : decode cX4_init 58 = .ok (.putfield 31, 3) := by decide +kernel
theorem dX4_init_61 : decode cX4_init 61 = .ok (.aload_n 0, 1) := by decide +kernel
theorem dX4_init_62 : decode cX4_init 62 = .ok (.iload_n 1, 1) := by decide +kernel
theorem dX4_init_63 : decode cX4_init 63 = .ok (.putfield 34, 3) := by decide +kernel
theorem dX4_init_66 : decode cX4_init 66 = .ok (.return_, 1) := by decide +kernel
theorem dX4_takeUnit_0 : decode cX4_takeUnit 0 = .ok (.aload_n 0, 1) := by decide +kernel
theorem dX4_takeUnit_1 : decode cX4_takeUnit 1 = .ok (.getfield 38, 3) := by decide +kernel
theorem dX4_takeUnit_4 : decode cX4_takeUnit 4 = .ok (.aload_n 0, 1) := by decide +kernel
theorem dX4_takeUnit_5 : decode cX4_takeUnit 5 = .ok (.getfield 41, 3) := by decide +kernel
theorem dX4_takeUnit_8 : decode cX4_takeUnit 8 = .ok (.bipush 24, 2) := by decide +kernel
theorem dX4_takeUnit_10 : decode cX4_takeUnit 10 = .ok (.iadd, 1) := by decide +kernel
theorem dX4_takeUnit_11 : decode cX4_takeUnit 11 = .ok (.if_icmp .ge 20, 3) := by decide +kernel
theorem dX4_takeUnit_14 : decode cX4_takeUnit 14 = .ok (.iload_n 2, 1) := by decide +kernel
theorem dX4_takeUnit_15 : decode cX4_takeUnit 15 = .ok (.iconst 1, 1) := by decide +kernel
theorem dX4_takeUnit_16 : decode cX4_takeUnit 16 = .ok (.if_icmp .lt 15, 3) := by decide +kernel
theorem dX4_takeUnit_19 : decode cX4_takeUnit 19 = .ok (.iload_n 2, 1) := by decide +kernel
theorem dX4_takeUnit_20 : decode cX4_takeUnit 20 = .ok (.bipush 120, 2) := by decide +kernel
theorem dX4_takeUnit_22 : decode cX4_takeUnit 22 = .ok (.if_icmp .gt 9, 3) := by decide +kernel
theorem dX4_takeUnit_25 : decode cX4_takeUnit 25 = .ok (.iload_n 2, 1) := by decide +kernel
theorem dX4_takeUnit_26 : decode cX4_takeUnit 26 = .ok (.aload_n 1, 1) := by decide +kernel
theorem dX4_takeUnit_27 : decode cX4_takeUnit 27 = .ok (.arraylength, 1) := by decide +kernel
theorem dX4_takeUnit_28 : decode cX4_takeUnit 28 = .ok (.if_icmp .le 5, 3) := by decide +kernel
theorem dX4_takeUnit_31 : decode cX4_takeUnit 31 = .ok (.iconst (-1), 1) := by decide +kernel
theorem dX4_takeUnit_32 : decode cX4_takeUnit 32 = .ok (.ireturn, 1) := by decide +kernel
theorem dX4_takeUnit_33 : decode cX4_takeUnit 33 = .ok (.aload_n 0, 1) := by decide +kernel
theorem dX4_takeUnit_34 : decode cX4_takeUnit 34 = .ok (.getfield 38, 3) := by decide +kernel
theorem dX4_takeUnit_37 : decode cX4_takeUnit 37 = .ok (.bipush 31, 2) := by decide +kernel
theorem dX4_takeUnit_39 : decode cX4_takeUnit 39 = .ok (.iand, 1) := by decide +kernel
theorem dX4_takeUnit_40 : decode cX4_takeUnit 40 = .ok (.istore_n 3, 1) := by decide +kernel
theorem dX4_takeUnit_41 : decode cX4_takeUnit 41 = .ok (.aload_n 1, 1) := by decide +kernel
theorem dX4_takeUnit_42 : decode cX4_takeUnit 42 = .ok (.iconst 0, 1) := by decide +kernel
theorem dX4_takeUnit_43 : decode cX4_takeUnit 43 = .ok (.aload_n 0, 1) := by decide +kernel
theorem dX4_takeUnit_44 : decode cX4_takeUnit 44 = .ok (.getfield 9, 3) := by decide +kernel
theorem dX4_takeUnit_47 : decode cX4_takeUnit 47 = .ok (.iload_n 3, 1) := by decide +kernel
theorem dX4_takeUnit_48 : decode cX4_takeUnit 48 = .ok (.bipush 120, 2) := by decide +kernel
theorem dX4_takeUnit_50 : decode cX4_takeUnit 50 = .ok (.imul, 1) := by decide +kernel
theorem dX4_takeUnit_51 : decode cX4_takeUnit 51 = .ok (.iload_n 2, 1) := by decide +kernel
theorem dX4_takeUnit_52 : decode cX4_takeUnit 52 = .ok (.invokestatic 44, 3) := by decide +kernel
theorem dX4_takeUnit_55 : decode cX4_takeUnit 55 = .ok (.aload_n 0, 1) := by decide +kernel
theorem dX4_takeUnit_56 : decode cX4_takeUnit 56 = .ok (.getfield 15, 3) := by decide +kernel
theorem dX4_takeUnit_59 : decode cX4_takeUnit 59 = .ok (.iload_n 3, 1) := by decide +kernel
theorem dX4_takeUnit_60 : decode cX4_takeUnit 60 = .ok (.iload_n 2, 1) := by decide +kernel
theorem dX4_takeUnit_61 : decode cX4_takeUnit 61 = .ok (.iastore, 1) := by decide +kernel
theorem dX4_takeUnit_62 : decode cX4_takeUnit 62 = .ok (.aload_n 0, 1) := by decide +kernel
theorem dX4_takeUnit_63 : decode cX4_takeUnit 63 = .ok (.getfield 18, 3) := by decide +kernel
theorem dX4_takeUnit_66 : decode cX4_takeUnit 66 = .ok (.iload_n 3, 1) := by decide +kernel
theorem dX4_takeUnit_67 : decode cX4_takeUnit 67 = .ok (.iconst 1, 1) := by decide +kernel
theorem dX4_takeUnit_68 : decode cX4_takeUnit 68 = .ok (.bastore, 1) := by decide +kernel
theorem dX4_takeUnit_69 : decode cX4_takeUnit 69 = .ok (.aload_n 0, 1) := by decide +kernel
theorem dX4_takeUnit_70 : decode cX4_takeUnit 70 = .ok (.getfield 22, 3) := by decide +kernel
theorem dX4_takeUnit_73 : decode cX4_takeUnit 73 = .ok (.iload_n 3, 1) := by decide +kernel
theorem dX4_takeUnit_74 : decode cX4_takeUnit 74 = .ok (.iload_n 2, 1) := by decide +kernel
theorem dX4_takeUnit_75 : decode cX4_takeUnit 75 = .ok (.iconst 1, 1) := by decide +kernel
theorem dX4_takeUnit_76 : decode cX4_takeUnit 76 = .ok (.iadd, 1) := by decide +kernel
theorem dX4_takeUnit_77 : decode cX4_takeUnit 77 = .ok (.iastore, 1) := by decide +kernel
theorem dX4_takeUnit_78 : decode cX4_takeUnit 78 = .ok (.aload_n 0, 1) := by decide +kernel
theorem dX4_takeUnit_79 : decode cX4_takeUnit 79 = .ok (.dup, 1) := by decide +kernel
theorem dX4_takeUnit_80 : decode cX4_takeUnit 80 = .ok (.getfield 50, 3) := by decide +kernel
theorem dX4_takeUnit_83 : decode cX4_takeUnit 83 = .ok (.iconst 1, 1) := by decide +kernel
theorem dX4_takeUnit_84 : decode cX4_takeUnit 84 = .ok (.iadd, 1) := by decide +kernel
theorem dX4_takeUnit_85 : decode cX4_takeUnit 85 = .ok (.putfield 50, 3) := by decide +kernel
theorem dX4_takeUnit_88 : decode cX4_takeUnit 88 = .ok (.aload_n 0, 1) := by decide +kernel
theorem dX4_takeUnit_89 : decode cX4_takeUnit 89 = .ok (.aload_n 0, 1) := by decide +kernel
theorem dX4_takeUnit_90 : decode cX4_takeUnit 90 = .ok (.getfield 38, 3) := by decide +kernel
theorem dX4_takeUnit_93 : decode cX4_takeUnit 93 = .ok (.invokevirtual 53, 3) := by decide +kernel
theorem dX4_takeUnit_96 : decode cX4_takeUnit 96 = .ok (.aload_n 0, 1) := by decide +kernel
theorem dX4_takeUnit_97 : decode cX4_takeUnit 97 = .ok (.dup, 1) := by decide +kernel
theorem dX4_takeUnit_98 : decode cX4_takeUnit 98 = .ok (.getfield 38, 3) := by decide +kernel
theorem dX4_takeUnit_101 : decode cX4_takeUnit 101 = .ok (.dup_x1, 1) := by decide +kernel
theorem dX4_takeUnit_102 : decode cX4_takeUnit 102 = .ok (.iconst 1, 1) := by decide +kernel
theorem dX4_takeUnit_103 : decode cX4_takeUnit 103 = .ok (.iadd, 1) := by decide +kernel
theorem dX4_takeUnit_104 : decode cX4_takeUnit 104 = .ok (.putfield 38, 3) := by decide +kernel
theorem dX4_takeUnit_107 : decode cX4_takeUnit 107 = .ok (.ireturn, 1) := by decide +kernel
theorem dX4_addWaiting_0 : decode cX4_addWaiting 0 = .ok (.aload_n 0, 1) := by decide +kernel
theorem dX4_addWaiting_1 : decode cX4_addWaiting 1 = .ok (.getfield 57, 3) := by decide +kernel
theorem dX4_addWaiting_4 : decode cX4_addWaiting 4 = .ok (.aload_n 0, 1) := by decide +kernel
theorem dX4_addWaiting_5 : decode cX4_addWaiting 5 = .ok (.getfield 25, 3) := by decide +kernel
theorem dX4_addWaiting_8 : decode cX4_addWaiting 8 = .ok (.arraylength, 1) := by decide +kernel
theorem dX4_addWaiting_9 : decode cX4_addWaiting 9 = .ok (.if_icmp .ge 20, 3) := by decide +kernel
theorem dX4_addWaiting_12 : decode cX4_addWaiting 12 = .ok (.aload_n 0, 1) := by decide +kernel
theorem dX4_addWaiting_13 : decode cX4_addWaiting 13 = .ok (.getfield 25, 3) := by decide +kernel
theorem dX4_addWaiting_16 : decode cX4_addWaiting 16 = .ok (.aload_n 0, 1) := by decide +kernel
theorem dX4_addWaiting_17 : decode cX4_addWaiting 17 = .ok (.dup, 1) := by decide +kernel
theorem dX4_addWaiting_18 : decode cX4_addWaiting 18 = .ok (.getfield 57, 3) := by decide +kernel
theorem dX4_addWaiting_21 : decode cX4_addWaiting 21 = .ok (.dup_x1, 1) := by decide +kernel
theorem dX4_addWaiting_22 : decode cX4_addWaiting 22 = .ok (.iconst 1, 1) := by decide +kernel
theorem dX4_addWaiting_23 : decode cX4_addWaiting 23 = .ok (.iadd, 1) := by decide +kernel
theorem dX4_addWaiting_24 : decode cX4_addWaiting 24 = .ok (.putfield 57, 3) := by decide +kernel
theorem dX4_addWaiting_27 : decode cX4_addWaiting 27 = .ok (.iload_n 1, 1) := by decide +kernel
theorem dX4_addWaiting_28 : decode cX4_addWaiting 28 = .ok (.iastore, 1) := by decide +kernel
theorem dX4_addWaiting_29 : decode cX4_addWaiting 29 = .ok (.return_, 1) := by decide +kernel
theorem dX4_dropFront_0 : decode cX4_dropFront 0 = .ok (.iconst 1, 1) := by decide +kernel
theorem dX4_dropFront_1 : decode cX4_dropFront 1 = .ok (.istore_n 1, 1) := by decide +kernel
theorem dX4_dropFront_2 : decode cX4_dropFront 2 = .ok (.iload_n 1, 1) := by decide +kernel
theorem dX4_dropFront_3 : decode cX4_dropFront 3 = .ok (.aload_n 0, 1) := by decide +kernel
theorem dX4_dropFront_4 : decode cX4_dropFront 4 = .ok (.getfield 57, 3) := by decide +kernel
theorem dX4_dropFront_7 : decode cX4_dropFront 7 = .ok (.if_icmp .ge 32, 3) := by decide +kernel
theorem dX4_dropFront_10 : decode cX4_dropFront 10 = .ok (.iload_n 1, 1) := by decide +kernel
theorem dX4_dropFront_11 : decode cX4_dropFront 11 = .ok (.aload_n 0, 1) := by decide +kernel
theorem dX4_dropFront_12 : decode cX4_dropFront 12 = .ok (.getfield 25, 3) := by decide +kernel
theorem dX4_dropFront_15 : decode cX4_dropFront 15 = .ok (.arraylength, 1) := by decide +kernel
theorem dX4_dropFront_16 : decode cX4_dropFront 16 = .ok (.if_icmp .ge 23, 3) := by decide +kernel
theorem dX4_dropFront_19 : decode cX4_dropFront 19 = .ok (.aload_n 0, 1) := by decide +kernel
theorem dX4_dropFront_20 : decode cX4_dropFront 20 = .ok (.getfield 25, 3) := by decide +kernel
theorem dX4_dropFront_23 : decode cX4_dropFront 23 = .ok (.iload_n 1, 1) := by decide +kernel
theorem dX4_dropFront_24 : decode cX4_dropFront 24 = .ok (.iconst 1, 1) := by decide +kernel
theorem dX4_dropFront_25 : decode cX4_dropFront 25 = .ok (.isub, 1) := by decide +kernel
theorem dX4_dropFront_26 : decode cX4_dropFront 26 = .ok (.aload_n 0, 1) := by decide +kernel
theorem dX4_dropFront_27 : decode cX4_dropFront 27 = .ok (.getfield 25, 3) := by decide +kernel
theorem dX4_dropFront_30 : decode cX4_dropFront 30 = .ok (.iload_n 1, 1) := by decide +kernel
theorem dX4_dropFront_31 : decode cX4_dropFront 31 = .ok (.iaload, 1) := by decide +kernel
theorem dX4_dropFront_32 : decode cX4_dropFront 32 = .ok (.iastore, 1) := by decide +kernel
theorem dX4_dropFront_33 : decode cX4_dropFront 33 = .ok (.iinc 1 1, 3) := by decide +kernel
theorem dX4_dropFront_36 : decode cX4_dropFront 36 = .ok (.goto (-34), 3) := by decide +kernel
theorem dX4_dropFront_39 : decode cX4_dropFront 39 = .ok (.aload_n 0, 1) := by decide +kernel
theorem dX4_dropFront_40 : decode cX4_dropFront 40 = .ok (.aload_n 0, 1) := by decide +kernel
theorem dX4_dropFront_41 : decode cX4_dropFront 41 = .ok (.getfield 57, 3) := by decide +kernel
theorem dX4_dropFront_44 : decode cX4_dropFront 44 = .ok (.iconst 1, 1) := by decide +kernel
theorem dX4_dropFront_45 : decode cX4_dropFront 45 = .ok (.isub, 1) := by decide +kernel
theorem dX4_dropFront_46 : decode cX4_dropFront 46 = .ok (.iconst 0, 1) := by decide +kernel
theorem dX4_dropFront_47 : decode cX4_dropFront 47 = .ok (.invokestatic 60, 3) := by decide +kernel
theorem dX4_dropFront_50 : decode cX4_dropFront 50 = .ok (.putfield 57, 3) := by decide +kernel
theorem dX4_dropFront_53 : decode cX4_dropFront 53 = .ok (.aload_n 0, 1) := by decide +kernel
theorem dX4_dropFront_54 : decode cX4_dropFront 54 = .ok (.iconst 0, 1) := by decide +kernel
theorem dX4_dropFront_55 : decode cX4_dropFront 55 = .ok (.putfield 66, 3) := by decide +kernel
theorem dX4_dropFront_58 : decode cX4_dropFront 58 = .ok (.return_, 1) := by decide +kernel
theorem dX4_packetSize_0 : decode cX4_packetSize 0 = .ok (.iload_n 1, 1) := by decide +kernel
theorem dX4_packetSize_1 : decode cX4_packetSize 1 = .ok (.iconst (-1), 1) := by decide +kernel
theorem dX4_packetSize_2 : decode cX4_packetSize 2 = .ok (.if_icmp .ne 10, 3) := by decide +kernel
theorem dX4_packetSize_5 : decode cX4_packetSize 5 = .ok (.aload_n 0, 1) := by decide +kernel
theorem dX4_packetSize_6 : decode cX4_packetSize 6 = .ok (.getfield 69, 3) := by decide +kernel
theorem dX4_packetSize_9 : decode cX4_packetSize 9 = .ok (.goto 14, 3) := by decide +kernel
theorem dX4_packetSize_12 : decode cX4_packetSize 12 = .ok (.aload_n 0, 1) := by decide +kernel
theorem dX4_packetSize_13 : decode cX4_packetSize 13 = .ok (.getfield 15, 3) := by decide +kernel
theorem dX4_packetSize_16 : decode cX4_packetSize 16 = .ok (.iload_n 1, 1) := by decide +kernel
theorem dX4_packetSize_17 : decode cX4_packetSize 17 = .ok (.bipush 31, 2) := by decide +kernel
theorem dX4_packetSize_19 : decode cX4_packetSize 19 = .ok (.iand, 1) := by decide +kernel
theorem dX4_packetSize_20 : decode cX4_packetSize 20 = .ok (.iaload, 1) := by decide +kernel
theorem dX4_packetSize_21 : decode cX4_packetSize 21 = .ok (.iconst 1, 1) := by decide +kernel
theorem dX4_packetSize_22 : decode cX4_packetSize 22 = .ok (.iadd, 1) := by decide +kernel
theorem dX4_packetSize_23 : decode cX4_packetSize 23 = .ok (.ireturn, 1) := by decide +kernel
theorem dX4_waitingBytes_0 : decode cX4_waitingBytes 0 = .ok (.iconst 0, 1) := by decide +kernel
theorem dX4_waitingBytes_1 : decode cX4_waitingBytes 1 = .ok (.istore_n 1, 1) := by decide +kernel
theorem dX4_waitingBytes_2 : decode cX4_waitingBytes 2 = .ok (.iconst 0, 1) := by decide +kernel
theorem dX4_waitingBytes_3 : decode cX4_waitingBytes 3 = .ok (.istore_n 2, 1) := by decide +kernel
theorem dX4_waitingBytes_4 : decode cX4_waitingBytes 4 = .ok (.iload_n 2, 1) := by decide +kernel
theorem dX4_waitingBytes_5 : decode cX4_waitingBytes 5 = .ok (.aload_n 0, 1) := by decide +kernel
theorem dX4_waitingBytes_6 : decode cX4_waitingBytes 6 = .ok (.getfield 57, 3) := by decide +kernel
theorem dX4_waitingBytes_9 : decode cX4_waitingBytes 9 = .ok (.if_icmp .ge 45, 3) := by decide +kernel
theorem dX4_waitingBytes_12 : decode cX4_waitingBytes 12 = .ok (.iload_n 1, 1) := by decide +kernel
theorem dX4_waitingBytes_13 : decode cX4_waitingBytes 13 = .ok (.iload_n 2, 1) := by decide +kernel
theorem dX4_waitingBytes_14 : decode cX4_waitingBytes 14 = .ok (.ifCond .ne 22, 3) := by decide +kernel
theorem dX4_waitingBytes_17 : decode cX4_waitingBytes 17 = .ok (.aload_n 0, 1) := by decide +kernel
theorem dX4_waitingBytes_18 : decode cX4_waitingBytes 18 = .ok (.getfield 66, 3) := by decide +kernel
theorem dX4_waitingBytes_21 : decode cX4_waitingBytes 21 = .ok (.ifCond .le 15, 3) := by decide +kernel
theorem dX4_waitingBytes_24 : decode cX4_waitingBytes 24 = .ok (.aload_n 0, 1) := by decide +kernel
theorem dX4_waitingBytes_25 : decode cX4_waitingBytes 25 = .ok (.getfield 72, 3) := by decide +kernel
theorem dX4_waitingBytes_28 : decode cX4_waitingBytes 28 = .ok (.aload_n 0, 1) := by decide +kernel
theorem dX4_waitingBytes_29 : decode cX4_waitingBytes 29 = .ok (.getfield 66, 3) := by decide +kernel
theorem dX4_waitingBytes_32 : decode cX4_waitingBytes 32 = .ok (.isub, 1) := by decide +kernel
theorem dX4_waitingBytes_33 : decode cX4_waitingBytes 33 = .ok (.goto 13, 3) := by decide +kernel
theorem dX4_waitingBytes_36 : decode cX4_waitingBytes 36 = .ok (.aload_n 0, 1) := by decide +kernel
theorem dX4_waitingBytes_37 : decode cX4_waitingBytes 37 = .ok (.aload_n 0, 1) := by decide +kernel
theorem dX4_waitingBytes_38 : decode cX4_waitingBytes 38 = .ok (.getfield 25, 3) := by decide +kernel
theorem dX4_waitingBytes_41 : decode cX4_waitingBytes 41 = .ok (.iload_n 2, 1) := by decide +kernel
theorem dX4_waitingBytes_42 : decode cX4_waitingBytes 42 = .ok (.iaload, 1) := by decide +kernel
theorem dX4_waitingBytes_43 : decode cX4_waitingBytes 43 = .ok (.invokevirtual 75, 3) := by decide +kernel
theorem dX4_waitingBytes_46 : decode cX4_waitingBytes 46 = .ok (.iadd, 1) := by decide +kernel
theorem dX4_waitingBytes_47 : decode cX4_waitingBytes 47 = .ok (.istore_n 1, 1) := by decide +kernel
theorem dX4_waitingBytes_48 : decode cX4_waitingBytes 48 = .ok (.iinc 2 1, 3) := by decide +kernel
theorem dX4_waitingBytes_51 : decode cX4_waitingBytes 51 = .ok (.goto (-47), 3) := by decide +kernel
theorem dX4_waitingBytes_54 : decode cX4_waitingBytes 54 = .ok (.iload_n 1, 1) := by decide +kernel
theorem dX4_waitingBytes_55 : decode cX4_waitingBytes 55 = .ok (.ireturn, 1) := by decide +kernel
theorem dX4_openFront_0 : decode cX4_openFront 0 = .ok (.aload_n 0, 1) := by decide +kernel
theorem dX4_openFront_1 : decode cX4_openFront 1 = .ok (.getfield 25, 3) := by decide +kernel
theorem dX4_openFront_4 : decode cX4_openFront 4 = .ok (.iconst 0, 1) := by decide +kernel
theorem dX4_openFront_5 : decode cX4_openFront 5 = .ok (.iaload, 1) := by decide +kernel
theorem dX4_openFront_6 : decode cX4_openFront 6 = .ok (.istore_n 2, 1) := by decide +kernel
theorem dX4_openFront_7 : decode cX4_openFront 7 = .ok (.aload_n 0, 1) := by decide +kernel
theorem dX4_openFront_8 : decode cX4_openFront 8 = .ok (.aload_n 0, 1) := by decide +kernel
theorem dX4_openFront_9 : decode cX4_openFront 9 = .ok (.iload_n 2, 1) := by decide +kernel
theorem dX4_openFront_10 : decode cX4_openFront 10 = .ok (.invokevirtual 75, 3) := by decide +kernel
theorem dX4_openFront_13 : decode cX4_openFront 13 = .ok (.putfield 72, 3) := by decide +kernel
theorem dX4_openFront_16 : decode cX4_openFront 16 = .ok (.iload_n 2, 1) := by decide +kernel
theorem dX4_openFront_17 : decode cX4_openFront 17 = .ok (.iconst (-1), 1) := by decide +kernel
theorem dX4_openFront_18 : decode cX4_openFront 18 = .ok (.if_icmp .ne 21, 3) := by decide +kernel
theorem dX4_openFront_21 : decode cX4_openFront 21 = .ok (.aload_n 0, 1) := by decide +kernel
theorem dX4_openFront_22 : decode cX4_openFront 22 = .ok (.getfield 31, 3) := by decide +kernel
theorem dX4_openFront_25 : decode cX4_openFront 25 = .ok (.iconst 0, 1) := by decide +kernel
theorem dX4_openFront_26 : decode cX4_openFront 26 = .ok (.aload_n 0, 1) := by decide +kernel
theorem dX4_openFront_27 : decode cX4_openFront 27 = .ok (.getfield 28, 3) := by decide +kernel
theorem dX4_openFront_30 : decode cX4_openFront 30 = .ok (.iconst 0, 1) := by decide +kernel
theorem dX4_openFront_31 : decode cX4_openFront 31 = .ok (.aload_n 0, 1) := by decide +kernel
theorem dX4_openFront_32 : decode cX4_openFront 32 = .ok (.getfield 69, 3) := by decide +kernel
theorem dX4_openFront_35 : decode cX4_openFront 35 = .ok (.invokestatic 44, 3) := by decide +kernel
theorem dX4_openFront_38 : decode cX4_openFront 38 = .ok (.return_, 1) := by decide +kernel
theorem dX4_openFront_39 : decode cX4_openFront 39 = .ok (.aload_n 0, 1) := by decide +kernel
theorem dX4_openFront_40 : decode cX4_openFront 40 = .ok (.getfield 28, 3) := by decide +kernel
theorem dX4_openFront_43 : decode cX4_openFront 43 = .ok (.iconst 0, 1) := by decide +kernel
theorem dX4_openFront_44 : decode cX4_openFront 44 = .ok (.sipush 128, 3) := by decide +kernel
theorem dX4_openFront_47 : decode cX4_openFront 47 = .ok (.iload_n 2, 1) := by decide +kernel
theorem dX4_openFront_48 : decode cX4_openFront 48 = .ok (.bipush 63, 2) := by decide +kernel
theorem dX4_openFront_50 : decode cX4_openFront 50 = .ok (.iand, 1) := by decide +kernel
theorem dX4_openFront_51 : decode cX4_openFront 51 = .ok (.iadd, 1) := by decide +kernel
theorem dX4_openFront_52 : decode cX4_openFront 52 = .ok (.iastore, 1) := by decide +kernel
theorem dX4_openFront_53 : decode cX4_openFront 53 = .ok (.iload_n 2, 1) := by decide +kernel
theorem dX4_openFront_54 : decode cX4_openFront 54 = .ok (.bipush 31, 2) := by decide +kernel
theorem dX4_openFront_56 : decode cX4_openFront 56 = .ok (.iand, 1) := by decide +kernel
theorem dX4_openFront_57 : decode cX4_openFront 57 = .ok (.istore_n 3, 1) := by decide +kernel
theorem dX4_openFront_58 : decode cX4_openFront 58 = .ok (.aload_n 0, 1) := by decide +kernel
theorem dX4_openFront_59 : decode cX4_openFront 59 = .ok (.getfield 9, 3) := by decide +kernel
theorem dX4_openFront_62 : decode cX4_openFront 62 = .ok (.iload_n 3, 1) := by decide +kernel
theorem dX4_openFront_63 : decode cX4_openFront 63 = .ok (.bipush 120, 2) := by decide +kernel
theorem dX4_openFront_65 : decode cX4_openFront 65 = .ok (.imul, 1) := by decide +kernel
theorem dX4_openFront_66 : decode cX4_openFront 66 = .ok (.aload_n 0, 1) := by decide +kernel
theorem dX4_openFront_67 : decode cX4_openFront 67 = .ok (.getfield 28, 3) := by decide +kernel
theorem dX4_openFront_70 : decode cX4_openFront 70 = .ok (.iconst 1, 1) := by decide +kernel
theorem dX4_openFront_71 : decode cX4_openFront 71 = .ok (.aload_n 0, 1) := by decide +kernel
theorem dX4_openFront_72 : decode cX4_openFront 72 = .ok (.getfield 15, 3) := by decide +kernel
theorem dX4_openFront_75 : decode cX4_openFront 75 = .ok (.iload_n 3, 1) := by decide +kernel
theorem dX4_openFront_76 : decode cX4_openFront 76 = .ok (.iaload, 1) := by decide +kernel
theorem dX4_openFront_77 : decode cX4_openFront 77 = .ok (.invokestatic 44, 3) := by decide +kernel
theorem dX4_openFront_80 : decode cX4_openFront 80 = .ok (.aload_n 1, 1) := by decide +kernel
theorem dX4_openFront_81 : decode cX4_openFront 81 = .ok (.aload_n 0, 1) := by decide +kernel
theorem dX4_openFront_82 : decode cX4_openFront 82 = .ok (.getfield 28, 3) := by decide +kernel
theorem dX4_openFront_85 : decode cX4_openFront 85 = .ok (.aload_n 0, 1) := by decide +kernel
theorem dX4_openFront_86 : decode cX4_openFront 86 = .ok (.getfield 72, 3) := by decide +kernel
theorem dX4_openFront_89 : decode cX4_openFront 89 = .ok (.iload_n 2, 1) := by decide +kernel
theorem dX4_openFront_90 : decode cX4_openFront 90 = .ok (.aload_n 0, 1) := by decide +kernel
theorem dX4_openFront_91 : decode cX4_openFront 91 = .ok (.getfield 34, 3) := by decide +kernel
theorem dX4_openFront_94 : decode cX4_openFront 94 = .ok (.invokevirtual 79, 3) := by decide +kernel
theorem dX4_openFront_97 : decode cX4_openFront 97 = .ok (.return_, 1) := by decide +kernel
theorem dX4_takeCell_0 : decode cX4_takeCell 0 = .ok (.aload_n 0, 1) := by decide +kernel
theorem dX4_takeCell_1 : decode cX4_takeCell 1 = .ok (.getfield 66, 3) := by decide +kernel
theorem dX4_takeCell_4 : decode cX4_takeCell 4 = .ok (.ifCond .lt 15, 3) := by decide +kernel
theorem dX4_takeCell_7 : decode cX4_takeCell 7 = .ok (.aload_n 0, 1) := by decide +kernel
theorem dX4_takeCell_8 : decode cX4_takeCell 8 = .ok (.getfield 66, 3) := by decide +kernel
theorem dX4_takeCell_11 : decode cX4_takeCell 11 = .ok (.aload_n 0, 1) := by decide +kernel
theorem dX4_takeCell_12 : decode cX4_takeCell 12 = .ok (.getfield 28, 3) := by decide +kernel
theorem dX4_takeCell_15 : decode cX4_takeCell 15 = .ok (.arraylength, 1) := by decide +kernel
theorem dX4_takeCell_16 : decode cX4_takeCell 16 = .ok (.if_icmp .lt 5, 3) := by decide +kernel
theorem dX4_takeCell_19 : decode cX4_takeCell 19 = .ok (.iconst 0, 1) := by decide +kernel
theorem dX4_takeCell_20 : decode cX4_takeCell 20 = .ok (.ireturn, 1) := by decide +kernel
theorem dX4_takeCell_21 : decode cX4_takeCell 21 = .ok (.aload_n 0, 1) := by decide +kernel
theorem dX4_takeCell_22 : decode cX4_takeCell 22 = .ok (.getfield 28, 3) := by decide +kernel
theorem dX4_takeCell_25 : decode cX4_takeCell 25 = .ok (.aload_n 0, 1) := by decide +kernel
theorem dX4_takeCell_26 : decode cX4_takeCell 26 = .ok (.getfield 66, 3) := by decide +kernel
theorem dX4_takeCell_29 : decode cX4_takeCell 29 = .ok (.iaload, 1) := by decide +kernel
theorem dX4_takeCell_30 : decode cX4_takeCell 30 = .ok (.aload_n 0, 1) := by decide +kernel
theorem dX4_takeCell_31 : decode cX4_takeCell 31 = .ok (.getfield 25, 3) := by decide +kernel
theorem dX4_takeCell_34 : decode cX4_takeCell 34 = .ok (.iconst 0, 1) := by decide +kernel
theorem dX4_takeCell_35 : decode cX4_takeCell 35 = .ok (.iaload, 1) := by decide +kernel
theorem dX4_takeCell_36 : decode cX4_takeCell 36 = .ok (.iconst 1, 1) := by decide +kernel
theorem dX4_takeCell_37 : decode cX4_takeCell 37 = .ok (.iadd, 1) := by decide +kernel
theorem dX4_takeCell_38 : decode cX4_takeCell 38 = .ok (.bipush 11, 2) := by decide +kernel
theorem dX4_takeCell_40 : decode cX4_takeCell 40 = .ok (.ishl, 1) := by decide +kernel
theorem dX4_takeCell_41 : decode cX4_takeCell 41 = .ok (.iadd, 1) := by decide +kernel
theorem dX4_takeCell_42 : decode cX4_takeCell 42 = .ok (.istore_n 1, 1) := by decide +kernel
theorem dX4_takeCell_43 : decode cX4_takeCell 43 = .ok (.iload_n 1, 1) := by decide +kernel
theorem dX4_takeCell_44 : decode cX4_takeCell 44 = .ok (.aload_n 0, 1) := by decide +kernel
theorem dX4_takeCell_45 : decode cX4_takeCell 45 = .ok (.getfield 66, 3) := by decide +kernel
theorem dX4_takeCell_48 : decode cX4_takeCell 48 = .ok (.ifCond .ne 9, 3) := by decide +kernel
theorem dX4_takeCell_51 : decode cX4_takeCell 51 = .ok (.sipush 256, 3) := by decide +kernel
theorem dX4_takeCell_54 : decode cX4_takeCell 54 = .ok (.goto 4, 3) := by decide +kernel
theorem dX4_takeCell_57 : decode cX4_takeCell 57 = .ok (.iconst 0, 1) := by decide +kernel
theorem dX4_takeCell_58 : decode cX4_takeCell 58 = .ok (.iadd, 1) := by decide +kernel
theorem dX4_takeCell_59 : decode cX4_takeCell 59 = .ok (.istore_n 1, 1) := by decide +kernel
theorem dX4_takeCell_60 : decode cX4_takeCell 60 = .ok (.aload_n 0, 1) := by decide +kernel
theorem dX4_takeCell_61 : decode cX4_takeCell 61 = .ok (.dup, 1) := by decide +kernel
theorem dX4_takeCell_62 : decode cX4_takeCell 62 = .ok (.getfield 66, 3) := by decide +kernel
theorem dX4_takeCell_65 : decode cX4_takeCell 65 = .ok (.iconst 1, 1) := by decide +kernel
theorem dX4_takeCell_66 : decode cX4_takeCell 66 = .ok (.iadd, 1) := by decide +kernel
theorem dX4_takeCell_67 : decode cX4_takeCell 67 = .ok (.putfield 66, 3) := by decide +kernel
theorem dX4_takeCell_70 : decode cX4_takeCell 70 = .ok (.aload_n 0, 1) := by decide +kernel
theorem dX4_takeCell_71 : decode cX4_takeCell 71 = .ok (.getfield 66, 3) := by decide +kernel
theorem dX4_takeCell_74 : decode cX4_takeCell 74 = .ok (.aload_n 0, 1) := by decide +kernel
theorem dX4_takeCell_75 : decode cX4_takeCell 75 = .ok (.getfield 72, 3) := by decide +kernel
theorem dX4_takeCell_78 : decode cX4_takeCell 78 = .ok (.if_icmp .lt 13, 3) := by decide +kernel
theorem dX4_takeCell_81 : decode cX4_takeCell 81 = .ok (.iinc 1 512, 6) := by decide +kernel
theorem dX4_takeCell_87 : decode cX4_takeCell 87 = .ok (.aload_n 0, 1) := by decide +kernel
theorem dX4_takeCell_88 : decode cX4_takeCell 88 = .ok (.invokevirtual 85, 3) := by decide +kernel
theorem dX4_takeCell_91 : decode cX4_takeCell 91 = .ok (.iload_n 1, 1) := by decide +kernel
theorem dX4_takeCell_92 : decode cX4_takeCell 92 = .ok (.ireturn, 1) := by decide +kernel
theorem dX4_keeps_0 : decode cX4_keeps 0 = .ok (.iload_n 1, 1) := by decide +kernel
theorem dX4_keeps_1 : decode cX4_keeps 1 = .ok (.aload_n 0, 1) := by decide +kernel
theorem dX4_keeps_2 : decode cX4_keeps 2 = .ok (.getfield 41, 3) := by decide +kernel
theorem dX4_keeps_5 : decode cX4_keeps 5 = .ok (.if_icmp .lt 27, 3) := by decide +kernel
theorem dX4_keeps_8 : decode cX4_keeps 8 = .ok (.iload_n 1, 1) := by decide +kernel
theorem dX4_keeps_9 : decode cX4_keeps 9 = .ok (.aload_n 0, 1) := by decide +kernel
theorem dX4_keeps_10 : decode cX4_keeps 10 = .ok (.getfield 38, 3) := by decide +kernel
theorem dX4_keeps_13 : decode cX4_keeps 13 = .ok (.if_icmp .ge 19, 3) := by decide +kernel
theorem dX4_keeps_16 : decode cX4_keeps 16 = .ok (.aload_n 0, 1) := by decide +kernel
theorem dX4_keeps_17 : decode cX4_keeps 17 = .ok (.getfield 18, 3) := by decide +kernel
theorem dX4_keeps_20 : decode cX4_keeps 20 = .ok (.iload_n 1, 1) := by decide +kernel
theorem dX4_keeps_21 : decode cX4_keeps 21 = .ok (.bipush 31, 2) := by decide +kernel
theorem dX4_keeps_23 : decode cX4_keeps 23 = .ok (.iand, 1) := by decide +kernel
theorem dX4_keeps_24 : decode cX4_keeps 24 = .ok (.baload, 1) := by decide +kernel
theorem dX4_keeps_25 : decode cX4_keeps 25 = .ok (.ifCond .eq 7, 3) := by decide +kernel
theorem dX4_keeps_28 : decode cX4_keeps 28 = .ok (.iconst 1, 1) := by decide +kernel
theorem dX4_keeps_29 : decode cX4_keeps 29 = .ok (.goto 4, 3) := by decide +kernel
theorem dX4_keeps_32 : decode cX4_keeps 32 = .ok (.iconst 0, 1) := by decide +kernel
theorem dX4_keeps_33 : decode cX4_keeps 33 = .ok (.ireturn, 1) := by decide +kernel
theorem dX4_confirmByte_0 : decode cX4_confirmByte 0 = .ok (.iload_n 1, 1) := by decide +kernel
theorem dX4_confirmByte_1 : decode cX4_confirmByte 1 = .ok (.bipush 11, 2) := by decide +kernel
theorem dX4_confirmByte_3 : decode cX4_confirmByte 3 = .ok (.ishr, 1) := by decide +kernel
theorem dX4_confirmByte_4 : decode cX4_confirmByte 4 = .ok (.iconst 1, 1) := by decide +kernel
theorem dX4_confirmByte_5 : decode cX4_confirmByte 5 = .ok (.isub, 1) := by decide +kernel
theorem dX4_confirmByte_6 : decode cX4_confirmByte 6 = .ok (.istore_n 2, 1) := by decide +kernel
theorem dX4_confirmByte_7 : decode cX4_confirmByte 7 = .ok (.aload_n 0, 1) := by decide +kernel
theorem dX4_confirmByte_8 : decode cX4_confirmByte 8 = .ok (.iload_n 2, 1) := by decide +kernel
theorem dX4_confirmByte_9 : decode cX4_confirmByte 9 = .ok (.invokevirtual 88, 3) := by decide +kernel
theorem dX4_confirmByte_12 : decode cX4_confirmByte 12 = .ok (.ifCond .eq 32, 3) := by decide +kernel
theorem dX4_confirmByte_15 : decode cX4_confirmByte 15 = .ok (.iload_n 2, 1) := by decide +kernel
theorem dX4_confirmByte_16 : decode cX4_confirmByte 16 = .ok (.bipush 31, 2) := by decide +kernel
theorem dX4_confirmByte_18 : decode cX4_confirmByte 18 = .ok (.iand, 1) := by decide +kernel
theorem dX4_confirmByte_19 : decode cX4_confirmByte 19 = .ok (.istore_n 3, 1) := by decide +kernel
theorem dX4_confirmByte_20 : decode cX4_confirmByte 20 = .ok (.aload_n 0, 1) := by decide +kernel
theorem dX4_confirmByte_21 : decode cX4_confirmByte 21 = .ok (.getfield 22, 3) := by decide +kernel
theorem dX4_confirmByte_24 : decode cX4_confirmByte 24 = .ok (.iload_n 3, 1) := by decide +kernel
theorem dX4_confirmByte_25 : decode cX4_confirmByte 25 = .ok (.dup2, 1) := by decide +kernel
theorem dX4_confirmByte_26 : decode cX4_confirmByte 26 = .ok (.iaload, 1) := by decide +kernel
theorem dX4_confirmByte_27 : decode cX4_confirmByte 27 = .ok (.iconst 1, 1) := by decide +kernel
theorem dX4_confirmByte_28 : decode cX4_confirmByte 28 = .ok (.isub, 1) := by decide +kernel
theorem dX4_confirmByte_29 : decode cX4_confirmByte 29 = .ok (.iastore, 1) := by decide +kernel
theorem dX4_confirmByte_30 : decode cX4_confirmByte 30 = .ok (.aload_n 0, 1) := by decide +kernel
theorem dX4_confirmByte_31 : decode cX4_confirmByte 31 = .ok (.getfield 22, 3) := by decide +kernel
theorem dX4_confirmByte_34 : decode cX4_confirmByte 34 = .ok (.iload_n 3, 1) := by decide +kernel
theorem dX4_confirmByte_35 : decode cX4_confirmByte 35 = .ok (.iaload, 1) := by decide +kernel
theorem dX4_confirmByte_36 : decode cX4_confirmByte 36 = .ok (.ifCond .ne 8, 3) := by decide +kernel
theorem dX4_confirmByte_39 : decode cX4_confirmByte 39 = .ok (.aload_n 0, 1) := by decide +kernel
theorem dX4_confirmByte_40 : decode cX4_confirmByte 40 = .ok (.iload_n 2, 1) := by decide +kernel
theorem dX4_confirmByte_41 : decode cX4_confirmByte 41 = .ok (.invokevirtual 92, 3) := by decide +kernel
theorem dX4_confirmByte_44 : decode cX4_confirmByte 44 = .ok (.return_, 1) := by decide +kernel
theorem dX4_confirmUnit_0 : decode cX4_confirmUnit 0 = .ok (.aload_n 0, 1) := by decide +kernel
theorem dX4_confirmUnit_1 : decode cX4_confirmUnit 1 = .ok (.getfield 18, 3) := by decide +kernel
theorem dX4_confirmUnit_4 : decode cX4_confirmUnit 4 = .ok (.iload_n 1, 1) := by decide +kernel
theorem dX4_confirmUnit_5 : decode cX4_confirmUnit 5 = .ok (.bipush 31, 2) := by decide +kernel
theorem dX4_confirmUnit_7 : decode cX4_confirmUnit 7 = .ok (.iand, 1) := by decide +kernel
theorem dX4_confirmUnit_8 : decode cX4_confirmUnit 8 = .ok (.iconst 0, 1) := by decide +kernel
theorem dX4_confirmUnit_9 : decode cX4_confirmUnit 9 = .ok (.bastore, 1) := by decide +kernel
theorem dX4_confirmUnit_10 : decode cX4_confirmUnit 10 = .ok (.aload_n 0, 1) := by decide +kernel
theorem dX4_confirmUnit_11 : decode cX4_confirmUnit 11 = .ok (.dup, 1) := by decide +kernel
theorem dX4_confirmUnit_12 : decode cX4_confirmUnit 12 = .ok (.getfield 50, 3) := by decide +kernel
theorem dX4_confirmUnit_15 : decode cX4_confirmUnit 15 = .ok (.iconst 1, 1) := by decide +kernel
theorem dX4_confirmUnit_16 : decode cX4_confirmUnit 16 = .ok (.isub, 1) := by decide +kernel
theorem dX4_confirmUnit_17 : decode cX4_confirmUnit 17 = .ok (.putfield 50, 3) := by decide +kernel
theorem dX4_confirmUnit_20 : decode cX4_confirmUnit 20 = .ok (.iconst 0, 1) := by decide +kernel
theorem dX4_confirmUnit_21 : decode cX4_confirmUnit 21 = .ok (.istore_n 2, 1) := by decide +kernel
theorem dX4_confirmUnit_22 : decode cX4_confirmUnit 22 = .ok (.iconst 0, 1) := by decide +kernel
theorem dX4_confirmUnit_23 : decode cX4_confirmUnit 23 = .ok (.istore_n 3, 1) := by decide +kernel
theorem dX4_confirmUnit_24 : decode cX4_confirmUnit 24 = .ok (.iload_n 3, 1) := by decide +kernel
theorem dX4_confirmUnit_25 : decode cX4_confirmUnit 25 = .ok (.aload_n 0, 1) := by decide +kernel
theorem dX4_confirmUnit_26 : decode cX4_confirmUnit 26 = .ok (.getfield 57, 3) := by decide +kernel
theorem dX4_confirmUnit_29 : decode cX4_confirmUnit 29 = .ok (.if_icmp .ge 54, 3) := by decide +kernel
theorem dX4_confirmUnit_32 : decode cX4_confirmUnit 32 = .ok (.iload_n 3, 1) := by decide +kernel
theorem dX4_confirmUnit_33 : decode cX4_confirmUnit 33 = .ok (.aload_n 0, 1) := by decide +kernel
theorem dX4_confirmUnit_34 : decode cX4_confirmUnit 34 = .ok (.getfield 25, 3) := by decide +kernel
theorem dX4_confirmUnit_37 : decode cX4_confirmUnit 37 = .ok (.arraylength, 1) := by decide +kernel
theorem dX4_confirmUnit_38 : decode cX4_confirmUnit 38 = .ok (.if_icmp .ge 45, 3) := by decide +kernel
theorem dX4_confirmUnit_41 : decode cX4_confirmUnit 41 = .ok (.aload_n 0, 1) := by decide +kernel
theorem dX4_confirmUnit_42 : decode cX4_confirmUnit 42 = .ok (.getfield 25, 3) := by decide +kernel
theorem dX4_confirmUnit_45 : decode cX4_confirmUnit 45 = .ok (.iload_n 3, 1) := by decide +kernel
theorem dX4_confirmUnit_46 : decode cX4_confirmUnit 46 = .ok (.iaload, 1) := by decide +kernel
theorem dX4_confirmUnit_47 : decode cX4_confirmUnit 47 = .ok (.iload_n 1, 1) := by decide +kernel
theorem dX4_confirmUnit_48 : decode cX4_confirmUnit 48 = .ok (.if_icmp .ne 14, 3) := by decide +kernel
theorem dX4_confirmUnit_51 : decode cX4_confirmUnit 51 = .ok (.iload_n 3, 1) := by decide +kernel
theorem dX4_confirmUnit_52 : decode cX4_confirmUnit 52 = .ok (.ifCond .ne 25, 3) := by decide +kernel
theorem dX4_confirmUnit_55 : decode cX4_confirmUnit 55 = .ok (.aload_n 0, 1) := by decide +kernel
theorem dX4_confirmUnit_56 : decode cX4_confirmUnit 56 = .ok (.getfield 66, 3) := by decide +kernel
theorem dX4_confirmUnit_59 : decode cX4_confirmUnit 59 = .ok (.ifCond .le 18, 3) := by decide +kernel
theorem dX4_confirmUnit_62 : decode cX4_confirmUnit 62 = .ok (.aload_n 0, 1) := by decide +kernel
theorem dX4_confirmUnit_63 : decode cX4_confirmUnit 63 = .ok (.getfield 25, 3) := by decide +kernel
theorem dX4_confirmUnit_66 : decode cX4_confirmUnit 66 = .ok (.iload_n 2, 1) := by decide +kernel
theorem dX4_confirmUnit_67 : decode cX4_confirmUnit 67 = .ok (.iinc 2 1, 3) := by decide +kernel
theorem dX4_confirmUnit_70 : decode cX4_confirmUnit 70 = .ok (.aload_n 0, 1) := by decide +kernel
theorem dX4_confirmUnit_71 : decode cX4_confirmUnit 71 = .ok (.getfield 25, 3) := by decide +kernel
theorem dX4_confirmUnit_74 : decode cX4_confirmUnit 74 = .ok (.iload_n 3, 1) := by decide +kernel
theorem dX4_confirmUnit_75 : decode cX4_confirmUnit 75 = .ok (.iaload, 1) := by decide +kernel
theorem dX4_confirmUnit_76 : decode cX4_confirmUnit 76 = .ok (.iastore, 1) := by decide +kernel
theorem dX4_confirmUnit_77 : decode cX4_confirmUnit 77 = .ok (.iinc 3 1, 3) := by decide +kernel
theorem dX4_confirmUnit_80 : decode cX4_confirmUnit 80 = .ok (.goto (-56), 3) := by decide +kernel
theorem dX4_confirmUnit_83 : decode cX4_confirmUnit 83 = .ok (.aload_n 0, 1) := by decide +kernel
theorem dX4_confirmUnit_84 : decode cX4_confirmUnit 84 = .ok (.iload_n 2, 1) := by decide +kernel
theorem dX4_confirmUnit_85 : decode cX4_confirmUnit 85 = .ok (.putfield 57, 3) := by decide +kernel
theorem dX4_confirmUnit_88 : decode cX4_confirmUnit 88 = .ok (.iconst 0, 1) := by decide +kernel
theorem dX4_confirmUnit_89 : decode cX4_confirmUnit 89 = .ok (.istore_n 3, 1) := by decide +kernel
theorem dX4_confirmUnit_90 : decode cX4_confirmUnit 90 = .ok (.iload_n 3, 1) := by decide +kernel
theorem dX4_confirmUnit_91 : decode cX4_confirmUnit 91 = .ok (.bipush 32, 2) := by decide +kernel
theorem dX4_confirmUnit_93 : decode cX4_confirmUnit 93 = .ok (.if_icmp .ge 45, 3) := by decide +kernel
theorem dX4_confirmUnit_96 : decode cX4_confirmUnit 96 = .ok (.aload_n 0, 1) := by decide +kernel
theorem dX4_confirmUnit_97 : decode cX4_confirmUnit 97 = .ok (.getfield 41, 3) := by decide +kernel
theorem dX4_confirmUnit_100 : decode cX4_confirmUnit 100 = .ok (.aload_n 0, 1) := by decide +kernel
theorem dX4_confirmUnit_101 : decode cX4_confirmUnit 101 = .ok (.getfield 38, 3) := by decide +kernel
theorem dX4_confirmUnit_104 : decode cX4_confirmUnit 104 = .ok (.if_icmp .ge 34, 3) := by decide +kernel
theorem dX4_confirmUnit_107 : decode cX4_confirmUnit 107 = .ok (.aload_n 0, 1) := by decide +kernel
theorem dX4_confirmUnit_108 : decode cX4_confirmUnit 108 = .ok (.getfield 18, 3) := by decide +kernel
theorem dX4_confirmUnit_111 : decode cX4_confirmUnit 111 = .ok (.aload_n 0, 1) := by decide +kernel
theorem dX4_confirmUnit_112 : decode cX4_confirmUnit 112 = .ok (.getfield 41, 3) := by decide +kernel
theorem dX4_confirmUnit_115 : decode cX4_confirmUnit 115 = .ok (.bipush 31, 2) := by decide +kernel
theorem dX4_confirmUnit_117 : decode cX4_confirmUnit 117 = .ok (.iand, 1) := by decide +kernel
theorem dX4_confirmUnit_118 : decode cX4_confirmUnit 118 = .ok (.baload, 1) := by decide +kernel
theorem dX4_confirmUnit_119 : decode cX4_confirmUnit 119 = .ok (.ifCond .ne 19, 3) := by decide +kernel
theorem dX4_confirmUnit_122 : decode cX4_confirmUnit 122 = .ok (.aload_n 0, 1) := by decide +kernel
theorem dX4_confirmUnit_123 : decode cX4_confirmUnit 123 = .ok (.dup, 1) := by decide +kernel
theorem dX4_confirmUnit_124 : decode cX4_confirmUnit 124 = .ok (.getfield 41, 3) := by decide +kernel
theorem dX4_confirmUnit_127 : decode cX4_confirmUnit 127 = .ok (.iconst 1, 1) := by decide +kernel
theorem dX4_confirmUnit_128 : decode cX4_confirmUnit 128 = .ok (.iadd, 1) := by decide +kernel
theorem dX4_confirmUnit_129 : decode cX4_confirmUnit 129 = .ok (.putfield 41, 3) := by decide +kernel
theorem dX4_confirmUnit_132 : decode cX4_confirmUnit 132 = .ok (.iinc 3 1, 3) := by decide +kernel
theorem dX4_confirmUnit_135 : decode cX4_confirmUnit 135 = .ok (.goto (-45), 3) := by decide +kernel
theorem dX4_confirmUnit_138 : decode cX4_confirmUnit 138 = .ok (.return_, 1) := by decide +kernel
theorem dX4_confirmReported_0 : decode cX4_confirmReported 0 = .ok (.iload_n 2, 1) := by decide +kernel
theorem dX4_confirmReported_1 : decode cX4_confirmReported 1 = .ok (.iconst 2, 1) := by decide +kernel
theorem dX4_confirmReported_2 : decode cX4_confirmReported 2 = .ok (.if_icmp .lt 9, 3) := by decide +kernel
theorem dX4_confirmReported_5 : decode cX4_confirmReported 5 = .ok (.iload_n 2, 1) := by decide +kernel
theorem dX4_confirmReported_6 : decode cX4_confirmReported 6 = .ok (.aload_n 1, 1) := by decide +kernel
theorem dX4_confirmReported_7 : decode cX4_confirmReported 7 = .ok (.arraylength, 1) := by decide +kernel
theorem dX4_confirmReported_8 : decode cX4_confirmReported 8 = .ok (.if_icmp .le 4, 3) := by decide +kernel
theorem dX4_confirmReported_11 : decode cX4_confirmReported 11 = .ok (.return_, 1) := by decide +kernel
theorem dX4_confirmReported_12 : decode cX4_confirmReported 12 = .ok (.aload_n 1, 1) := by decide +kernel
theorem dX4_confirmReported_13 : decode cX4_confirmReported 13 = .ok (.iconst 0, 1) := by decide +kernel
theorem dX4_confirmReported_14 : decode cX4_confirmReported 14 = .ok (.iaload, 1) := by decide +kernel
theorem dX4_confirmReported_15 : decode cX4_confirmReported 15 = .ok (.bipush 63, 2) := by decide +kernel
theorem dX4_confirmReported_17 : decode cX4_confirmReported 17 = .ok (.iand, 1) := by decide +kernel
theorem dX4_confirmReported_18 : decode cX4_confirmReported 18 = .ok (.bipush 8, 2) := by decide +kernel
theorem dX4_confirmReported_20 : decode cX4_confirmReported 20 = .ok (.ishl, 1) := by decide +kernel
theorem dX4_confirmReported_21 : decode cX4_confirmReported 21 = .ok (.aload_n 1, 1) := by decide +kernel
theorem dX4_confirmReported_22 : decode cX4_confirmReported 22 = .ok (.iconst 1, 1) := by decide +kernel
theorem dX4_confirmReported_23 : decode cX4_confirmReported 23 = .ok (.iaload, 1) := by decide +kernel
theorem dX4_confirmReported_24 : decode cX4_confirmReported 24 = .ok (.ior, 1) := by decide +kernel
theorem dX4_confirmReported_25 : decode cX4_confirmReported 25 = .ok (.istore_n 3, 1) := by decide +kernel
theorem dX4_confirmReported_26 : decode cX4_confirmReported 26 = .ok (.aload_n 0, 1) := by decide +kernel
theorem dX4_confirmReported_27 : decode cX4_confirmReported 27 = .ok (.getfield 38, 3) := by decide +kernel
theorem dX4_confirmReported_30 : decode cX4_confirmReported 30 = .ok (.istore 4, 2) := by decide +kernel
theorem dX4_confirmReported_32 : decode cX4_confirmReported 32 = .ok (.aload_n 0, 1) := by decide +kernel
theorem dX4_confirmReported_33 : decode cX4_confirmReported 33 = .ok (.getfield 41, 3) := by decide +kernel
theorem dX4_confirmReported_36 : decode cX4_confirmReported 36 = .ok (.istore 5, 2) := by decide +kernel
theorem dX4_confirmReported_38 : decode cX4_confirmReported 38 = .ok (.iload 5, 2) := by decide +kernel
theorem dX4_confirmReported_40 : decode cX4_confirmReported 40 = .ok (.iload 4, 2) := by decide +kernel
theorem dX4_confirmReported_42 : decode cX4_confirmReported 42 = .ok (.if_icmp .ge 87, 3) := by decide +kernel
theorem dX4_confirmReported_45 : decode cX4_confirmReported 45 = .ok (.iload 5, 2) := by decide +kernel
theorem dX4_confirmReported_47 : decode cX4_confirmReported 47 = .ok (.iload_n 3, 1) := by decide +kernel
theorem dX4_confirmReported_48 : decode cX4_confirmReported 48 = .ok (.isub, 1) := by decide +kernel
theorem dX4_confirmReported_49 : decode cX4_confirmReported 49 = .ok (.iconst 1, 1) := by decide +kernel
theorem dX4_confirmReported_50 : decode cX4_confirmReported 50 = .ok (.isub, 1) := by decide +kernel
theorem dX4_confirmReported_51 : decode cX4_confirmReported 51 = .ok (.istore 6, 2) := by decide +kernel
theorem dX4_confirmReported_53 : decode cX4_confirmReported 53 = .ok (.iconst 2, 1) := by decide +kernel
theorem dX4_confirmReported_54 : decode cX4_confirmReported 54 = .ok (.iload 6, 2) := by decide +kernel
theorem dX4_confirmReported_56 : decode cX4_confirmReported 56 = .ok (.iconst 3, 1) := by decide +kernel
theorem dX4_confirmReported_57 : decode cX4_confirmReported 57 = .ok (.ishr, 1) := by decide +kernel
theorem dX4_confirmReported_58 : decode cX4_confirmReported 58 = .ok (.iadd, 1) := by decide +kernel
theorem dX4_confirmReported_59 : decode cX4_confirmReported 59 = .ok (.istore 7, 2) := by decide +kernel
theorem dX4_confirmReported_61 : decode cX4_confirmReported 61 = .ok (.iload 6, 2) := by decide +kernel
theorem dX4_confirmReported_63 : decode cX4_confirmReported 63 = .ok (.ifCond .lt 31, 3) := by decide +kernel
theorem dX4_confirmReported_66 : decode cX4_confirmReported 66 = .ok (.iload 7, 2) := by decide +kernel
theorem dX4_confirmReported_68 : decode cX4_confirmReported 68 = .ok (.iload_n 2, 1) := by decide +kernel
theorem dX4_confirmReported_69 : decode cX4_confirmReported 69 = .ok (.if_icmp .ge 25, 3) := by decide +kernel
theorem dX4_confirmReported_72 : decode cX4_confirmReported 72 = .ok (.aload_n 1, 1) := by decide +kernel
theorem dX4_confirmReported_73 : decode cX4_confirmReported 73 = .ok (.iload 7, 2) := by decide +kernel
theorem dX4_confirmReported_75 : decode cX4_confirmReported 75 = .ok (.iaload, 1) := by decide +kernel
theorem dX4_confirmReported_76 : decode cX4_confirmReported 76 = .ok (.bipush 7, 2) := by decide +kernel
theorem dX4_confirmReported_78 : decode cX4_confirmReported 78 = .ok (.iload 6, 2) := by decide +kernel
theorem dX4_confirmReported_80 : decode cX4_confirmReported 80 = .ok (.bipush 7, 2) := by decide +kernel
theorem dX4_confirmReported_82 : decode cX4_confirmReported 82 = .ok (.iand, 1) := by decide +kernel
theorem dX4_confirmReported_83 : decode cX4_confirmReported 83 = .ok (.isub, 1) := by decide +kernel
theorem dX4_confirmReported_84 : decode cX4_confirmReported 84 = .ok (.ishr, 1) := by decide +kernel
theorem dX4_confirmReported_85 : decode cX4_confirmReported 85 = .ok (.iconst 1, 1) := by decide +kernel
theorem dX4_confirmReported_86 : decode cX4_confirmReported 86 = .ok (.iand, 1) := by decide +kernel
theorem dX4_confirmReported_87 : decode cX4_confirmReported 87 = .ok (.ifCond .eq 7, 3) := by decide +kernel
theorem dX4_confirmReported_90 : decode cX4_confirmReported 90 = .ok (.iconst 1, 1) := by decide +kernel
theorem dX4_confirmReported_91 : decode cX4_confirmReported 91 = .ok (.goto 4, 3) := by decide +kernel
theorem dX4_confirmReported_94 : decode cX4_confirmReported 94 = .ok (.iconst 0, 1) := by decide +kernel
theorem dX4_confirmReported_95 : decode cX4_confirmReported 95 = .ok (.istore 8, 2) := by decide +kernel
theorem dX4_confirmReported_97 : decode cX4_confirmReported 97 = .ok (.aload_n 0, 1) := by decide +kernel
theorem dX4_confirmReported_98 : decode cX4_confirmReported 98 = .ok (.iload 5, 2) := by decide +kernel
theorem dX4_confirmReported_100 : decode cX4_confirmReported 100 = .ok (.invokevirtual 88, 3) := by decide +kernel
theorem dX4_confirmReported_103 : decode cX4_confirmReported 103 = .ok (.ifCond .eq 20, 3) := by decide +kernel
theorem dX4_confirmReported_106 : decode cX4_confirmReported 106 = .ok (.iload 5, 2) := by decide +kernel
theorem dX4_confirmReported_108 : decode cX4_confirmReported 108 = .ok (.iload_n 3, 1) := by decide +kernel
theorem dX4_confirmReported_109 : decode cX4_confirmReported 109 = .ok (.if_icmp .lt 8, 3) := by decide +kernel
theorem dX4_confirmReported_112 : decode cX4_confirmReported 112 = .ok (.iload 8, 2) := by decide +kernel
theorem dX4_confirmReported_114 : decode cX4_confirmReported 114 = .ok (.ifCond .eq 9, 3) := by decide +kernel
theorem dX4_confirmReported_117 : decode cX4_confirmReported 117 = .ok (.aload_n 0, 1) := by decide +kernel
theorem dX4_confirmReported_118 : decode cX4_confirmReported 118 = .ok (.iload 5, 2) := by decide +kernel
theorem dX4_confirmReported_120 : decode cX4_confirmReported 120 = .ok (.invokevirtual 92, 3) := by decide +kernel
theorem dX4_confirmReported_123 : decode cX4_confirmReported 123 = .ok (.iinc 5 1, 3) := by decide +kernel
theorem dX4_confirmReported_126 : decode cX4_confirmReported 126 = .ok (.goto (-88), 3) := by decide +kernel
theorem dX4_confirmReported_129 : decode cX4_confirmReported 129 = .ok (.return_, 1) := by decide +kernel
theorem dX4_waitAnew_0 : decode cX4_waitAnew 0 = .ok (.aload_n 0, 1) := by decide +kernel
theorem dX4_waitAnew_1 : decode cX4_waitAnew 1 = .ok (.aload_n 1, 1) := by decide +kernel
theorem dX4_waitAnew_2 : decode cX4_waitAnew 2 = .ok (.aload_n 0, 1) := by decide +kernel
theorem dX4_waitAnew_3 : decode cX4_waitAnew 3 = .ok (.getfield 31, 3) := by decide +kernel
theorem dX4_waitAnew_6 : decode cX4_waitAnew 6 = .ok (.invokevirtual 95, 3) := by decide +kernel
theorem dX4_waitAnew_9 : decode cX4_waitAnew 9 = .ok (.putfield 69, 3) := by decide +kernel
theorem dX4_waitAnew_12 : decode cX4_waitAnew 12 = .ok (.aload_n 0, 1) := by decide +kernel
theorem dX4_waitAnew_13 : decode cX4_waitAnew 13 = .ok (.iconst 0, 1) := by decide +kernel
theorem dX4_waitAnew_14 : decode cX4_waitAnew 14 = .ok (.putfield 57, 3) := by decide +kernel
theorem dX4_waitAnew_17 : decode cX4_waitAnew 17 = .ok (.aload_n 0, 1) := by decide +kernel
theorem dX4_waitAnew_18 : decode cX4_waitAnew 18 = .ok (.iconst 0, 1) := by decide +kernel
theorem dX4_waitAnew_19 : decode cX4_waitAnew 19 = .ok (.putfield 66, 3) := by decide +kernel
theorem dX4_waitAnew_22 : decode cX4_waitAnew 22 = .ok (.aload_n 0, 1) := by decide +kernel
theorem dX4_waitAnew_23 : decode cX4_waitAnew 23 = .ok (.iconst (-1), 1) := by decide +kernel
