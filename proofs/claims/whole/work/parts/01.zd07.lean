theorem dX9_renewReceiver_14 : decode cX9_renewReceiver 14 = .ok (.iload 4, 2) := by decide +kernel
theorem dX9_renewReceiver_16 : decode cX9_renewReceiver 16 = .ok (.aload_n 0, 1) := by decide +kernel
theorem dX9_renewReceiver_17 : decode cX9_renewReceiver 17 = .ok (.getfield 110, 3) := by decide +kernel
theorem dX9_renewReceiver_20 : decode cX9_renewReceiver 20 = .ok (.iload_n 3, 1) := by decide +kernel
theorem dX9_renewReceiver_21 : decode cX9_renewReceiver 21 = .ok (.iaload, 1) := by decide +kernel
theorem dX9_renewReceiver_22 : decode cX9_renewReceiver 22 = .ok (.if_icmp .ge 37, 3) := by decide +kernel
theorem dX9_renewReceiver_25 : decode cX9_renewReceiver 25 = .ok (.aload_n 0, 1) := by decide +kernel
theorem dX9_renewReceiver_26 : decode cX9_renewReceiver 26 = .ok (.iload_n 3, 1) := by decide +kernel
theorem dX9_renewReceiver_27 : decode cX9_renewReceiver 27 = .ok (.iload 4, 2) := by decide +kernel
theorem dX9_renewReceiver_29 : decode cX9_renewReceiver 29 = .ok (.invokevirtual 306, 3) := by decide +kernel
theorem dX9_renewReceiver_32 : decode cX9_renewReceiver 32 = .ok (.ifCond .eq 14, 3) := by decide +kernel
theorem dX9_renewReceiver_35 : decode cX9_renewReceiver 35 = .ok (.aload_n 0, 1) := by decide +kernel
theorem dX9_renewReceiver_36 : decode cX9_renewReceiver 36 = .ok (.iload_n 1, 1) := by decide +kernel
theorem dX9_renewReceiver_37 : decode cX9_renewReceiver 37 = .ok (.iload_n 2, 1) := by decide +kernel
theorem dX9_renewReceiver_38 : decode cX9_renewReceiver 38 = .ok (.iload 4, 2) := by decide +kernel
theorem dX9_renewReceiver_40 : decode cX9_renewReceiver 40 = .ok (.invokevirtual 341, 3) := by decide +kernel
theorem dX9_renewReceiver_43 : decode cX9_renewReceiver 43 = .ok (.goto 10, 3) := by decide +kernel
theorem dX9_renewReceiver_46 : decode cX9_renewReceiver 46 = .ok (.aload_n 0, 1) := by decide +kernel
theorem dX9_renewReceiver_47 : decode cX9_renewReceiver 47 = .ok (.getfield 156, 3) := by decide +kernel
theorem dX9_renewReceiver_50 : decode cX9_renewReceiver 50 = .ok (.iload_n 3, 1) := by decide +kernel
theorem dX9_renewReceiver_51 : decode cX9_renewReceiver 51 = .ok (.iconst (-1), 1) := by decide +kernel
theorem dX9_renewReceiver_52 : decode cX9_renewReceiver 52 = .ok (.iastore, 1) := by decide +kernel
theorem dX9_renewReceiver_53 : decode cX9_renewReceiver 53 = .ok (.iinc 4 1, 3) := by decide +kernel
theorem dX9_renewReceiver_56 : decode cX9_renewReceiver 56 = .ok (.goto (-42), 3) := by decide +kernel
theorem dX9_renewReceiver_59 : decode cX9_renewReceiver 59 = .ok (.aload_n 0, 1) := by decide +kernel
theorem dX9_renewReceiver_60 : decode cX9_renewReceiver 60 = .ok (.getfield 156, 3) := by decide +kernel
theorem dX9_renewReceiver_63 : decode cX9_renewReceiver 63 = .ok (.iload_n 3, 1) := by decide +kernel
theorem dX9_renewReceiver_64 : decode cX9_renewReceiver 64 = .ok (.iconst (-1), 1) := by decide +kernel
theorem dX9_renewReceiver_65 : decode cX9_renewReceiver 65 = .ok (.iastore, 1) := by decide +kernel
theorem dX9_renewReceiver_66 : decode cX9_renewReceiver 66 = .ok (.iconst 0, 1) := by decide +kernel
theorem dX9_renewReceiver_67 : decode cX9_renewReceiver 67 = .ok (.istore 4, 2) := by decide +kernel
theorem dX9_renewReceiver_69 : decode cX9_renewReceiver 69 = .ok (.iload 4, 2) := by decide +kernel
theorem dX9_renewReceiver_71 : decode cX9_renewReceiver 71 = .ok (.bipush 32, 2) := by decide +kernel
theorem dX9_renewReceiver_73 : decode cX9_renewReceiver 73 = .ok (.if_icmp .ge 16, 3) := by decide +kernel
theorem dX9_renewReceiver_76 : decode cX9_renewReceiver 76 = .ok (.aload_n 0, 1) := by decide +kernel
theorem dX9_renewReceiver_77 : decode cX9_renewReceiver 77 = .ok (.iload_n 3, 1) := by decide +kernel
theorem dX9_renewReceiver_78 : decode cX9_renewReceiver 78 = .ok (.iload 4, 2) := by decide +kernel
theorem dX9_renewReceiver_80 : decode cX9_renewReceiver 80 = .ok (.invokevirtual 344, 3) := by decide +kernel
theorem dX9_renewReceiver_83 : decode cX9_renewReceiver 83 = .ok (.iinc 4 1, 3) := by decide +kernel
theorem dX9_renewReceiver_86 : decode cX9_renewReceiver 86 = .ok (.goto (-17), 3) := by decide +kernel
theorem dX9_renewReceiver_89 : decode cX9_renewReceiver 89 = .ok (.aload_n 0, 1) := by decide +kernel
theorem dX9_renewReceiver_90 : decode cX9_renewReceiver 90 = .ok (.getfield 107, 3) := by decide +kernel
theorem dX9_renewReceiver_93 : decode cX9_renewReceiver 93 = .ok (.iload_n 3, 1) := by decide +kernel
theorem dX9_renewReceiver_94 : decode cX9_renewReceiver 94 = .ok (.iconst 0, 1) := by decide +kernel
theorem dX9_renewReceiver_95 : decode cX9_renewReceiver 95 = .ok (.iastore, 1) := by decide +kernel
theorem dX9_renewReceiver_96 : decode cX9_renewReceiver 96 = .ok (.aload_n 0, 1) := by decide +kernel
theorem dX9_renewReceiver_97 : decode cX9_renewReceiver 97 = .ok (.getfield 110, 3) := by decide +kernel
theorem dX9_renewReceiver_100 : decode cX9_renewReceiver 100 = .ok (.iload_n 3, 1) := by decide +kernel
theorem dX9_renewReceiver_101 : decode cX9_renewReceiver 101 = .ok (.iconst 0, 1) := by decide +kernel
theorem dX9_renewReceiver_102 : decode cX9_renewReceiver 102 = .ok (.iastore, 1) := by decide +kernel
theorem dX9_renewReceiver_103 : decode cX9_renewReceiver 103 = .ok (.aload_n 0, 1) := by decide +kernel
theorem dX9_renewReceiver_104 : decode cX9_renewReceiver 104 = .ok (.getfield 113, 3) := by decide +kernel
theorem dX9_renewReceiver_107 : decode cX9_renewReceiver 107 = .ok (.iload_n 3, 1) := by decide +kernel
theorem dX9_renewReceiver_108 : decode cX9_renewReceiver 108 = .ok (.iconst 0, 1) := by decide +kernel
theorem dX9_renewReceiver_109 : decode cX9_renewReceiver 109 = .ok (.iastore, 1) := by decide +kernel
theorem dX9_renewReceiver_110 : decode cX9_renewReceiver 110 = .ok (.aload_n 0, 1) := by decide +kernel
theorem dX9_renewReceiver_111 : decode cX9_renewReceiver 111 = .ok (.getfield 116, 3) := by decide +kernel
theorem dX9_renewReceiver_114 : decode cX9_renewReceiver 114 = .ok (.iload_n 3, 1) := by decide +kernel
theorem dX9_renewReceiver_115 : decode cX9_renewReceiver 115 = .ok (.iconst 0, 1) := by decide +kernel
theorem dX9_renewReceiver_116 : decode cX9_renewReceiver 116 = .ok (.iastore, 1) := by decide +kernel
theorem dX9_renewReceiver_117 : decode cX9_renewReceiver 117 = .ok (.aload_n 0, 1) := by decide +kernel
theorem dX9_renewReceiver_118 : decode cX9_renewReceiver 118 = .ok (.getfield 125, 3) := by decide +kernel
theorem dX9_renewReceiver_121 : decode cX9_renewReceiver 121 = .ok (.iload_n 3, 1) := by decide +kernel
theorem dX9_renewReceiver_122 : decode cX9_renewReceiver 122 = .ok (.iconst (-1), 1) := by decide +kernel
theorem dX9_renewReceiver_123 : decode cX9_renewReceiver 123 = .ok (.iastore, 1) := by decide +kernel
theorem dX9_renewReceiver_124 : decode cX9_renewReceiver 124 = .ok (.aload_n 0, 1) := by decide +kernel
theorem dX9_renewReceiver_125 : decode cX9_renewReceiver 125 = .ok (.getfield 137, 3) := by decide +kernel
theorem dX9_renewReceiver_128 : decode cX9_renewReceiver 128 = .ok (.iload_n 3, 1) := by decide +kernel
theorem dX9_renewReceiver_129 : decode cX9_renewReceiver 129 = .ok (.iconst 0, 1) := by decide +kernel
theorem dX9_renewReceiver_130 : decode cX9_renewReceiver 130 = .ok (.bastore, 1) := by decide +kernel
theorem dX9_renewReceiver_131 : decode cX9_renewReceiver 131 = .ok (.aload_n 0, 1) := by decide +kernel
theorem dX9_renewReceiver_132 : decode cX9_renewReceiver 132 = .ok (.getfield 119, 3) := by decide +kernel
theorem dX9_renewReceiver_135 : decode cX9_renewReceiver 135 = .ok (.iload_n 3, 1) := by decide +kernel
theorem dX9_renewReceiver_136 : decode cX9_renewReceiver 136 = .ok (.iconst 0, 1) := by decide +kernel
theorem dX9_renewReceiver_137 : decode cX9_renewReceiver 137 = .ok (.iastore, 1) := by decide +kernel
theorem dX9_renewReceiver_138 : decode cX9_renewReceiver 138 = .ok (.aload_n 0, 1) := by decide +kernel
theorem dX9_renewReceiver_139 : decode cX9_renewReceiver 139 = .ok (.getfield 122, 3) := by decide +kernel
theorem dX9_renewReceiver_142 : decode cX9_renewReceiver 142 = .ok (.iload_n 3, 1) := by decide +kernel
theorem dX9_renewReceiver_143 : decode cX9_renewReceiver 143 = .ok (.iconst 0, 1) := by decide +kernel
theorem dX9_renewReceiver_144 : decode cX9_renewReceiver 144 = .ok (.iastore, 1) := by decide +kernel
theorem dX9_renewReceiver_145 : decode cX9_renewReceiver 145 = .ok (.return_, 1) := by decide +kernel
theorem dX9_rate_0 : decode cX9_rate 0 = .ok (.iload_n 1, 1) := by decide +kernel
theorem dX9_rate_1 : decode cX9_rate 1 = .ok (.ifCond .lt 22, 3) := by decide +kernel
theorem dX9_rate_4 : decode cX9_rate 4 = .ok (.iload_n 1, 1) := by decide +kernel
theorem dX9_rate_5 : decode cX9_rate 5 = .ok (.aload_n 0, 1) := by decide +kernel
theorem dX9_rate_6 : decode cX9_rate 6 = .ok (.getfield 228, 3) := by decide +kernel
theorem dX9_rate_9 : decode cX9_rate 9 = .ok (.if_icmp .ge 14, 3) := by decide +kernel
theorem dX9_rate_12 : decode cX9_rate 12 = .ok (.iload_n 2, 1) := by decide +kernel
theorem dX9_rate_13 : decode cX9_rate 13 = .ok (.ifCond .lt 10, 3) := by decide +kernel
theorem dX9_rate_16 : decode cX9_rate 16 = .ok (.iload_n 2, 1) := by decide +kernel
theorem dX9_rate_17 : decode cX9_rate 17 = .ok (.sipush 200, 3) := by decide +kernel
theorem dX9_rate_20 : decode cX9_rate 20 = .ok (.if_icmp .le 5, 3) := by decide +kernel
theorem dX9_rate_23 : decode cX9_rate 23 = .ok (.iconst 0, 1) := by decide +kernel
theorem dX9_rate_24 : decode cX9_rate 24 = .ok (.ireturn, 1) := by decide +kernel
theorem dX9_rate_25 : decode cX9_rate 25 = .ok (.aload_n 0, 1) := by decide +kernel
theorem dX9_rate_26 : decode cX9_rate 26 = .ok (.getfield 50, 3) := by decide +kernel
theorem dX9_rate_29 : decode cX9_rate 29 = .ok (.iload_n 1, 1) := by decide +kernel
theorem dX9_rate_30 : decode cX9_rate 30 = .ok (.iload_n 2, 1) := by decide +kernel
theorem dX9_rate_31 : decode cX9_rate 31 = .ok (.iastore, 1) := by decide +kernel
theorem dX9_rate_32 : decode cX9_rate 32 = .ok (.iconst 1, 1) := by decide +kernel
theorem dX9_rate_33 : decode cX9_rate 33 = .ok (.ireturn, 1) := by decide +kernel
theorem dX9_block_0 : decode cX9_block 0 = .ok (.iload_n 1, 1) := by decide +kernel
theorem dX9_block_1 : decode cX9_block 1 = .ok (.ifCond .lt 33, 3) := by decide +kernel
theorem dX9_block_4 : decode cX9_block 4 = .ok (.iload_n 1, 1) := by decide +kernel
theorem dX9_block_5 : decode cX9_block 5 = .ok (.iconst 1, 1) := by decide +kernel
theorem dX9_block_6 : decode cX9_block 6 = .ok (.if_icmp .gt 28, 3) := by decide +kernel
theorem dX9_block_9 : decode cX9_block 9 = .ok (.aload_n 0, 1) := by decide +kernel
theorem dX9_block_10 : decode cX9_block 10 = .ok (.getfield 201, 3) := by decide +kernel
theorem dX9_block_13 : decode cX9_block 13 = .ok (.iload_n 1, 1) := by decide +kernel
theorem dX9_block_14 : decode cX9_block 14 = .ok (.iaload, 1) := by decide +kernel
theorem dX9_block_15 : decode cX9_block 15 = .ok (.iconst (-1), 1) := by decide +kernel
theorem dX9_block_16 : decode cX9_block 16 = .ok (.if_icmp .eq 18, 3) := by decide +kernel
theorem dX9_block_19 : decode cX9_block 19 = .ok (.iload_n 2, 1) := by decide +kernel
theorem dX9_block_20 : decode cX9_block 20 = .ok (.iconst (-1), 1) := by decide +kernel
theorem dX9_block_21 : decode cX9_block 21 = .ok (.if_icmp .lt 13, 3) := by decide +kernel
theorem dX9_block_24 : decode cX9_block 24 = .ok (.iload_n 2, 1) := by decide +kernel
theorem dX9_block_25 : decode cX9_block 25 = .ok (.aload_n 0, 1) := by decide +kernel
theorem dX9_block_26 : decode cX9_block 26 = .ok (.getfield 201, 3) := by decide +kernel
theorem dX9_block_29 : decode cX9_block 29 = .ok (.iload_n 1, 1) := by decide +kernel
theorem dX9_block_30 : decode cX9_block 30 = .ok (.iaload, 1) := by decide +kernel
theorem dX9_block_31 : decode cX9_block 31 = .ok (.if_icmp .lt 5, 3) := by decide +kernel
theorem dX9_block_34 : decode cX9_block 34 = .ok (.iconst (-1), 1) := by decide +kernel
theorem dX9_block_35 : decode cX9_block 35 = .ok (.ireturn, 1) := by decide +kernel
theorem dX9_block_36 : decode cX9_block 36 = .ok (.iload_n 2, 1) := by decide +kernel
theorem dX9_block_37 : decode cX9_block 37 = .ok (.ifCond .ge 12, 3) := by decide +kernel
theorem dX9_block_40 : decode cX9_block 40 = .ok (.aload_n 0, 1) := by decide +kernel
theorem dX9_block_41 : decode cX9_block 41 = .ok (.getfield 201, 3) := by decide +kernel
theorem dX9_block_44 : decode cX9_block 44 = .ok (.iload_n 1, 1) := by decide +kernel
theorem dX9_block_45 : decode cX9_block 45 = .ok (.iaload, 1) := by decide +kernel
theorem dX9_block_46 : decode cX9_block 46 = .ok (.goto 15, 3) := by decide +kernel
theorem dX9_block_49 : decode cX9_block 49 = .ok (.aload_n 0, 1) := by decide +kernel
theorem dX9_block_50 : decode cX9_block 50 = .ok (.getfield 204, 3) := by decide +kernel
theorem dX9_block_53 : decode cX9_block 53 = .ok (.sipush 250, 3) := by decide +kernel
theorem dX9_block_56 : decode cX9_block 56 = .ok (.iload_n 1, 1) := by decide +kernel
theorem dX9_block_57 : decode cX9_block 57 = .ok (.imul, 1) := by decide +kernel
theorem dX9_block_58 : decode cX9_block 58 = .ok (.iload_n 2, 1) := by decide +kernel
theorem dX9_block_59 : decode cX9_block 59 = .ok (.iadd, 1) := by decide +kernel
theorem dX9_block_60 : decode cX9_block 60 = .ok (.iaload, 1) := by decide +kernel
theorem dX9_block_61 : decode cX9_block 61 = .ok (.ireturn, 1) := by decide +kernel
theorem dX9_sender_0 : decode cX9_sender 0 = .ok (.aload_n 0, 1) := by decide +kernel
theorem dX9_sender_1 : decode cX9_sender 1 = .ok (.iload_n 1, 1) := by decide +kernel
theorem dX9_sender_2 : decode cX9_sender 2 = .ok (.iload_n 2, 1) := by decide +kernel
theorem dX9_sender_3 : decode cX9_sender 3 = .ok (.invokevirtual 269, 3) := by decide +kernel
theorem dX9_sender_6 : decode cX9_sender 6 = .ok (.ifCond .ne 5, 3) := by decide +kernel
theorem dX9_sender_9 : decode cX9_sender 9 = .ok (.iconst (-1), 1) := by decide +kernel
theorem dX9_sender_10 : decode cX9_sender 10 = .ok (.ireturn, 1) := by decide +kernel
theorem dX9_sender_11 : decode cX9_sender 11 = .ok (.iload_n 1, 1) := by decide +kernel
theorem dX9_sender_12 : decode cX9_sender 12 = .ok (.iload_n 2, 1) := by decide +kernel
theorem dX9_sender_13 : decode cX9_sender 13 = .ok (.invokestatic 258, 3) := by decide +kernel
theorem dX9_sender_16 : decode cX9_sender 16 = .ok (.istore 4, 2) := by decide +kernel
theorem dX9_sender_18 : decode cX9_sender 18 = .ok (.iload_n 3, 1) := by decide +kernel
theorem dX9_sender_19 : decode cX9_sender 19 = .ok (.tableswitch 204 0 11 #[61, 69, 77, 125, 133, 140, 148, 164, 172, 180, 188, 196], 61) := by decide +kernel
theorem dX9_sender_80 : decode cX9_sender 80 = .ok (.aload_n 0, 1) := by decide +kernel
theorem dX9_sender_81 : decode cX9_sender 81 = .ok (.getfield 16, 3) := by decide +kernel
theorem dX9_sender_84 : decode cX9_sender 84 = .ok (.iload 4, 2) := by decide +kernel
theorem dX9_sender_86 : decode cX9_sender 86 = .ok (.iaload, 1) := by decide +kernel
theorem dX9_sender_87 : decode cX9_sender 87 = .ok (.ireturn, 1) := by decide +kernel
theorem dX9_sender_88 : decode cX9_sender 88 = .ok (.aload_n 0, 1) := by decide +kernel
theorem dX9_sender_89 : decode cX9_sender 89 = .ok (.getfield 19, 3) := by decide +kernel
theorem dX9_sender_92 : decode cX9_sender 92 = .ok (.iload 4, 2) := by decide +kernel
theorem dX9_sender_94 : decode cX9_sender 94 = .ok (.iaload, 1) := by decide +kernel
theorem dX9_sender_95 : decode cX9_sender 95 = .ok (.ireturn, 1) := by decide +kernel
theorem dX9_sender_96 : decode cX9_sender 96 = .ok (.iconst 0, 1) := by decide +kernel
theorem dX9_sender_97 : decode cX9_sender 97 = .ok (.istore 5, 2) := by decide +kernel
theorem dX9_sender_99 : decode cX9_sender 99 = .ok (.iconst 0, 1) := by decide +kernel
theorem dX9_sender_100 : decode cX9_sender 100 = .ok (.istore 6, 2) := by decide +kernel
theorem dX9_sender_102 : decode cX9_sender 102 = .ok (.iload 6, 2) := by decide +kernel
theorem dX9_sender_104 : decode cX9_sender 104 = .ok (.bipush 32, 2) := by decide +kernel
theorem dX9_sender_106 : decode cX9_sender 106 = .ok (.if_icmp .ge 35, 3) := by decide +kernel
theorem dX9_sender_109 : decode cX9_sender 109 = .ok (.iload 5, 2) := by decide +kernel
theorem dX9_sender_111 : decode cX9_sender 111 = .ok (.aload_n 0, 1) := by decide +kernel
theorem dX9_sender_112 : decode cX9_sender 112 = .ok (.getfield 53, 3) := by decide +kernel
theorem dX9_sender_115 : decode cX9_sender 115 = .ok (.bipush 32, 2) := by decide +kernel
theorem dX9_sender_117 : decode cX9_sender 117 = .ok (.iload 4, 2) := by decide +kernel
theorem dX9_sender_119 : decode cX9_sender 119 = .ok (.imul, 1) := by decide +kernel
theorem dX9_sender_120 : decode cX9_sender 120 = .ok (.iload 6, 2) := by decide +kernel
theorem dX9_sender_122 : decode cX9_sender 122 = .ok (.iadd, 1) := by decide +kernel
theorem dX9_sender_123 : decode cX9_sender 123 = .ok (.baload, 1) := by decide +kernel
theorem dX9_sender_124 : decode cX9_sender 124 = .ok (.ifCond .eq 7, 3) := by decide +kernel
theorem dX9_sender_127 : decode cX9_sender 127 = .ok (.iconst 1, 1) := by decide +kernel
theorem dX9_sender_128 : decode cX9_sender 128 = .ok (.goto 4, 3) := by decide +kernel
theorem dX9_sender_131 : decode cX9_sender 131 = .ok (.iconst 0, 1) := by decide +kernel
theorem dX9_sender_132 : decode cX9_sender 132 = .ok (.iadd, 1) := by decide +kernel
theorem dX9_sender_133 : decode cX9_sender 133 = .ok (.istore 5, 2) := by decide +kernel
theorem dX9_sender_135 : decode cX9_sender 135 = .ok (.iinc 6 1, 3) := by decide +kernel
theorem dX9_sender_138 : decode cX9_sender 138 = .ok (.goto (-36), 3) := by decide +kernel
theorem dX9_sender_141 : decode cX9_sender 141 = .ok (.iload 5, 2) := by decide +kernel
theorem dX9_sender_143 : decode cX9_sender 143 = .ok (.ireturn, 1) := by decide +kernel
theorem dX9_sender_144 : decode cX9_sender 144 = .ok (.aload_n 0, 1) := by decide +kernel
theorem dX9_sender_145 : decode cX9_sender 145 = .ok (.getfield 74, 3) := by decide +kernel
theorem dX9_sender_148 : decode cX9_sender 148 = .ok (.iload 4, 2) := by decide +kernel
theorem dX9_sender_150 : decode cX9_sender 150 = .ok (.iaload, 1) := by decide +kernel
theorem dX9_sender_151 : decode cX9_sender 151 = .ok (.ireturn, 1) := by decide +kernel
theorem dX9_sender_152 : decode cX9_sender 152 = .ok (.aload_n 0, 1) := by decide +kernel
theorem dX9_sender_153 : decode cX9_sender 153 = .ok (.iload 4, 2) := by decide +kernel
theorem dX9_sender_155 : decode cX9_sender 155 = .ok (.invokevirtual 289, 3) := by decide +kernel
theorem dX9_sender_158 : decode cX9_sender 158 = .ok (.ireturn, 1) := by decide +kernel
theorem dX9_sender_159 : decode cX9_sender 159 = .ok (.aload_n 0, 1) := by decide +kernel
theorem dX9_sender_160 : decode cX9_sender 160 = .ok (.getfield 22, 3) := by decide +kernel
theorem dX9_sender_163 : decode cX9_sender 163 = .ok (.iload 4, 2) := by decide +kernel
theorem dX9_sender_165 : decode cX9_sender 165 = .ok (.iaload, 1) := by decide +kernel
theorem dX9_sender_166 : decode cX9_sender 166 = .ok (.ireturn, 1) := by decide +kernel
theorem dX9_sender_167 : decode cX9_sender 167 = .ok (.aload_n 0, 1) := by decide +kernel
theorem dX9_sender_168 : decode cX9_sender 168 = .ok (.getfield 47, 3) := by decide +kernel
theorem dX9_sender_171 : decode cX9_sender 171 = .ok (.iload 4, 2) := by decide +kernel
theorem dX9_sender_173 : decode cX9_sender 173 = .ok (.baload, 1) := by decide +kernel
theorem dX9_sender_174 : decode cX9_sender 174 = .ok (.ifCond .eq 7, 3) := by decide +kernel
theorem dX9_sender_177 : decode cX9_sender 177 = .ok (.iconst 1, 1) := by decide +kernel
theorem dX9_sender_178 : decode cX9_sender 178 = .ok (.goto 4, 3) := by decide +kernel
theorem dX9_sender_181 : decode cX9_sender 181 = .ok (.iconst 0, 1) := by decide +kernel
theorem dX9_sender_182 : decode cX9_sender 182 = .ok (.ireturn, 1) := by decide +kernel
theorem dX9_sender_183 : decode cX9_sender 183 = .ok (.aload_n 0, 1) := by decide +kernel
theorem dX9_sender_184 : decode cX9_sender 184 = .ok (.getfield 31, 3) := by decide +kernel
theorem dX9_sender_187 : decode cX9_sender 187 = .ok (.iload 4, 2) := by decide +kernel
theorem dX9_sender_189 : decode cX9_sender 189 = .ok (.iaload, 1) := by decide +kernel
theorem dX9_sender_190 : decode cX9_sender 190 = .ok (.ireturn, 1) := by decide +kernel
theorem dX9_sender_191 : decode cX9_sender 191 = .ok (.aload_n 0, 1) := by decide +kernel
theorem dX9_sender_192 : decode cX9_sender 192 = .ok (.getfield 34, 3) := by decide +kernel
theorem dX9_sender_195 : decode cX9_sender 195 = .ok (.iload 4, 2) := by decide +kernel
theorem dX9_sender_197 : decode cX9_sender 197 = .ok (.iaload, 1) := by decide +kernel
theorem dX9_sender_198 : decode cX9_sender 198 = .ok (.ireturn, 1) := by decide +kernel
theorem dX9_sender_199 : decode cX9_sender 199 = .ok (.aload_n 0, 1) := by decide +kernel
theorem dX9_sender_200 : decode cX9_sender 200 = .ok (.getfield 37, 3) := by decide +kernel
theorem dX9_sender_203 : decode cX9_sender 203 = .ok (.iload 4, 2) := by decide +kernel
theorem dX9_sender_205 : decode cX9_sender 205 = .ok (.iaload, 1) := by decide +kernel
theorem dX9_sender_206 : decode cX9_sender 206 = .ok (.ireturn, 1) := by decide +kernel
theorem dX9_sender_207 : decode cX9_sender 207 = .ok (.aload_n 0, 1) := by decide +kernel
theorem dX9_sender_208 : decode cX9_sender 208 = .ok (.getfield 40, 3) := by decide +kernel
theorem dX9_sender_211 : decode cX9_sender 211 = .ok (.iload 4, 2) := by decide +kernel
theorem dX9_sender_213 : decode cX9_sender 213 = .ok (.iaload, 1) := by decide +kernel
theorem dX9_sender_214 : decode cX9_sender 214 = .ok (.ireturn, 1) := by decide +kernel
theorem dX9_sender_215 : decode cX9_sender 215 = .ok (.aload_n 0, 1) := by decide +kernel
theorem dX9_sender_216 : decode cX9_sender 216 = .ok (.getfield 13, 3) := by decide +kernel
theorem dX9_sender_219 : decode cX9_sender 219 = .ok (.iload 4, 2) := by decide +kernel
theorem dX9_sender_221 : decode cX9_sender 221 = .ok (.iaload, 1) := by decide +kernel
theorem dX9_sender_222 : decode cX9_sender 222 = .ok (.ireturn, 1) := by decide +kernel
theorem dX9_sender_223 : decode cX9_sender 223 = .ok (.iconst (-1), 1) := by decide +kernel
theorem dX9_sender_224 : decode cX9_sender 224 = .ok (.ireturn, 1) := by decide +kernel
theorem dX9_receiver_0 : decode cX9_receiver 0 = .ok (.aload_n 0, 1) := by decide +kernel
theorem dX9_receiver_1 : decode cX9_receiver 1 = .ok (.iload_n 1, 1) := by decide +kernel
theorem dX9_receiver_2 : decode cX9_receiver 2 = .ok (.iload_n 2, 1) := by decide +kernel
theorem dX9_receiver_3 : decode cX9_receiver 3 = .ok (.invokevirtual 269, 3) := by decide +kernel
theorem dX9_receiver_6 : decode cX9_receiver 6 = .ok (.ifCond .ne 5, 3) := by decide +kernel
theorem dX9_receiver_9 : decode cX9_receiver 9 = .ok (.iconst (-1), 1) := by decide +kernel
theorem dX9_receiver_10 : decode cX9_receiver 10 = .ok (.ireturn, 1) := by decide +kernel
theorem dX9_receiver_11 : decode cX9_receiver 11 = .ok (.iload_n 1, 1) := by decide +kernel
theorem dX9_receiver_12 : decode cX9_receiver 12 = .ok (.iload_n 2, 1) := by decide +kernel
theorem dX9_receiver_13 : decode cX9_receiver 13 = .ok (.invokestatic 258, 3) := by decide +kernel
theorem dX9_receiver_16 : decode cX9_receiver 16 = .ok (.istore 4, 2) := by decide +kernel
theorem dX9_receiver_18 : decode cX9_receiver 18 = .ok (.iload_n 3, 1) := by decide +kernel
theorem dX9_receiver_19 : decode cX9_receiver 19 = .ok (.tableswitch 207 0 11 #[61, 69, 77, 85, 93, 101, 109, 125, 175, 183, 191, 199], 61) := by decide +kernel
theorem dX9_receiver_80 : decode cX9_receiver 80 = .ok (.aload_n 0, 1) := by decide +kernel
theorem dX9_receiver_81 : decode cX9_receiver 81 = .ok (.getfield 107, 3) := by decide +kernel
theorem dX9_receiver_84 : decode cX9_receiver 84 = .ok (.iload 4, 2) := by decide +kernel
theorem dX9_receiver_86 : decode cX9_receiver 86 = .ok (.iaload, 1) := by decide +kernel
theorem dX9_receiver_87 : decode cX9_receiver 87 = .ok (.ireturn, 1) := by decide +kernel
theorem dX9_receiver_88 : decode cX9_receiver 88 = .ok (.aload_n 0, 1) := by decide +kernel
theorem dX9_receiver_89 : decode cX9_receiver 89 = .ok (.getfield 110, 3) := by decide +kernel
theorem dX9_receiver_92 : decode cX9_receiver 92 = .ok (.iload 4, 2) := by decide +kernel
theorem dX9_receiver_94 : decode cX9_receiver 94 = .ok (.iaload, 1) := by decide +kernel
theorem dX9_receiver_95 : decode cX9_receiver 95 = .ok (.ireturn, 1) := by decide +kernel
theorem dX9_receiver_96 : decode cX9_receiver 96 = .ok (.aload_n 0, 1) := by decide +kernel
theorem dX9_receiver_97 : decode cX9_receiver 97 = .ok (.getfield 113, 3) := by decide +kernel
theorem dX9_receiver_100 : decode cX9_receiver 100 = .ok (.iload 4, 2) := by decide +kernel
theorem dX9_receiver_102 : decode cX9_receiver 102 = .ok (.iaload, 1) := by decide +kernel
theorem dX9_receiver_103 : decode cX9_receiver 103 = .ok (.ireturn, 1) := by decide +kernel
theorem dX9_receiver_104 : decode cX9_receiver 104 = .ok (.aload_n 0, 1) := by decide +kernel
theorem dX9_receiver_105 : decode cX9_receiver 105 = .ok (.getfield 116, 3) := by decide +kernel
theorem dX9_receiver_108 : decode cX9_receiver 108 = .ok (.iload 4, 2) := by decide +kernel
theorem dX9_receiver_110 : decode cX9_receiver 110 = .ok (.iaload, 1) := by decide +kernel
theorem dX9_receiver_111 : decode cX9_receiver 111 = .ok (.ireturn, 1) := by decide +kernel
theorem dX9_receiver_112 : decode cX9_receiver 112 = .ok (.aload_n 0, 1) := by decide +kernel
theorem dX9_receiver_113 : decode cX9_receiver 113 = .ok (.getfield 119, 3) := by decide +kernel
theorem dX9_receiver_116 : decode cX9_receiver 116 = .ok (.iload 4, 2) := by decide +kernel
theorem dX9_receiver_118 : decode cX9_receiver 118 = .ok (.iaload, 1) := by decide +kernel
theorem dX9_receiver_119 : decode cX9_receiver 119 = .ok (.ireturn, 1) := by decide +kernel
theorem dX9_receiver_120 : decode cX9_receiver 120 = .ok (.aload_n 0, 1) := by decide +kernel
theorem dX9_receiver_121 : decode cX9_receiver 121 = .ok (.getfield 122, 3) := by decide +kernel
theorem dX9_receiver_124 : decode cX9_receiver 124 = .ok (.iload 4, 2) := by decide +kernel
theorem dX9_receiver_126 : decode cX9_receiver 126 = .ok (.iaload, 1) := by decide +kernel
theorem dX9_receiver_127 : decode cX9_receiver 127 = .ok (.ireturn, 1) := by decide +kernel
theorem dX9_receiver_128 : decode cX9_receiver 128 = .ok (.aload_n 0, 1) := by decide +kernel
theorem dX9_receiver_129 : decode cX9_receiver 129 = .ok (.getfield 137, 3) := by decide +kernel
theorem dX9_receiver_132 : decode cX9_receiver 132 = .ok (.iload 4, 2) := by decide +kernel
theorem dX9_receiver_134 : decode cX9_receiver 134 = .ok (.baload, 1) := by decide +kernel
theorem dX9_receiver_135 : decode cX9_receiver 135 = .ok (.ifCond .eq 7, 3) := by decide +kernel
theorem dX9_receiver_138 : decode cX9_receiver 138 = .ok (.iconst 1, 1) := by decide +kernel
theorem dX9_receiver_139 : decode cX9_receiver 139 = .ok (.goto 4, 3) := by decide +kernel
theorem dX9_receiver_142 : decode cX9_receiver 142 = .ok (.iconst 0, 1) := by decide +kernel
theorem dX9_receiver_143 : decode cX9_receiver 143 = .ok (.ireturn, 1) := by decide +kernel
theorem dX9_receiver_144 : decode cX9_receiver 144 = .ok (.iconst 0, 1) := by decide +kernel
theorem dX9_receiver_145 : decode cX9_receiver 145 = .ok (.istore 5, 2) := by decide +kernel
theorem dX9_receiver_147 : decode cX9_receiver 147 = .ok (.iconst 0, 1) := by decide +kernel
theorem dX9_receiver_148 : decode cX9_receiver 148 = .ok (.istore 6, 2) := by decide +kernel
theorem dX9_receiver_150 : decode cX9_receiver 150 = .ok (.iload 6, 2) := by decide +kernel
theorem dX9_receiver_152 : decode cX9_receiver 152 = .ok (.sipush 7680, 3) := by decide +kernel
theorem dX9_receiver_155 : decode cX9_receiver 155 = .ok (.if_icmp .ge 36, 3) := by decide +kernel
theorem dX9_receiver_158 : decode cX9_receiver 158 = .ok (.iload 5, 2) := by decide +kernel
theorem dX9_receiver_160 : decode cX9_receiver 160 = .ok (.aload_n 0, 1) := by decide +kernel
theorem dX9_receiver_161 : decode cX9_receiver 161 = .ok (.getfield 147, 3) := by decide +kernel
theorem dX9_receiver_164 : decode cX9_receiver 164 = .ok (.sipush 7680, 3) := by decide +kernel
theorem dX9_receiver_167 : decode cX9_receiver 167 = .ok (.iload 4, 2) := by decide +kernel
theorem dX9_receiver_169 : decode cX9_receiver 169 = .ok (.imul, 1) := by decide +kernel
theorem dX9_receiver_170 : decode cX9_receiver 170 = .ok (.iload 6, 2) := by decide +kernel
theorem dX9_receiver_172 : decode cX9_receiver 172 = .ok (.iadd, 1) := by decide +kernel
theorem dX9_receiver_173 : decode cX9_receiver 173 = .ok (.baload, 1) := by decide +kernel
theorem dX9_receiver_174 : decode cX9_receiver 174 = .ok (.ifCond .eq 7, 3) := by decide +kernel
theorem dX9_receiver_177 : decode cX9_receiver 177 = .ok (.iconst 1, 1) := by decide +kernel
theorem dX9_receiver_178 : decode cX9_receiver 178 = .ok (.goto 4, 3) := by decide +kernel
theorem dX9_receiver_181 : decode cX9_receiver 181 = .ok (.iconst 0, 1) := by decide +kernel
theorem dX9_receiver_182 : decode cX9_receiver 182 = .ok (.iadd, 1) := by decide +kernel
theorem dX9_receiver_183 : decode cX9_receiver 183 = .ok (.istore 5, 2) := by decide +kernel
theorem dX9_receiver_185 : decode cX9_receiver 185 = .ok (.iinc 6 1, 3) := by decide +kernel
theorem dX9_receiver_188 : decode cX9_receiver 188 = .ok (.goto (-38), 3) := by decide +kernel
theorem dX9_receiver_191 : decode cX9_receiver 191 = .ok (.iload 5, 2) := by decide +kernel
theorem dX9_receiver_193 : decode cX9_receiver 193 = .ok (.ireturn, 1) := by decide +kernel
theorem dX9_receiver_194 : decode cX9_receiver 194 = .ok (.aload_n 0, 1) := by decide +kernel
theorem dX9_receiver_195 : decode cX9_receiver 195 = .ok (.getfield 128, 3) := by decide +kernel
theorem dX9_receiver_198 : decode cX9_receiver 198 = .ok (.iload 4, 2) := by decide +kernel
theorem dX9_receiver_200 : decode cX9_receiver 200 = .ok (.iaload, 1) := by decide +kernel
theorem dX9_receiver_201 : decode cX9_receiver 201 = .ok (.ireturn, 1) := by decide +kernel
theorem dX9_receiver_202 : decode cX9_receiver 202 = .ok (.aload_n 0, 1) := by decide +kernel
theorem dX9_receiver_203 : decode cX9_receiver 203 = .ok (.getfield 131, 3) := by decide +kernel
theorem dX9_receiver_206 : decode cX9_receiver 206 = .ok (.iload 4, 2) := by decide +kernel
theorem dX9_receiver_208 : decode cX9_receiver 208 = .ok (.iaload, 1) := by decide +kernel
theorem dX9_receiver_209 : decode cX9_receiver 209 = .ok (.ireturn, 1) := by decide +kernel
theorem dX9_receiver_210 : decode cX9_receiver 210 = .ok (.aload_n 0, 1) := by decide +kernel
theorem dX9_receiver_211 : decode cX9_receiver 211 = .ok (.getfield 134, 3) := by decide +kernel
theorem dX9_receiver_214 : decode cX9_receiver 214 = .ok (.iload 4, 2) := by decide +kernel
theorem dX9_receiver_216 : decode cX9_receiver 216 = .ok (.iaload, 1) := by decide +kernel
theorem dX9_receiver_217 : decode cX9_receiver 217 = .ok (.ireturn, 1) := by decide +kernel
theorem dX9_receiver_218 : decode cX9_receiver 218 = .ok (.aload_n 0, 1) := by decide +kernel
theorem dX9_receiver_219 : decode cX9_receiver 219 = .ok (.getfield 125, 3) := by decide +kernel
theorem dX9_receiver_222 : decode cX9_receiver 222 = .ok (.iload 4, 2) := by decide +kernel
theorem dX9_receiver_224 : decode cX9_receiver 224 = .ok (.iaload, 1) := by decide +kernel
theorem dX9_receiver_225 : decode cX9_receiver 225 = .ok (.ireturn, 1) := by decide +kernel
theorem dX9_receiver_226 : decode cX9_receiver 226 = .ok (.iconst (-1), 1) := by decide +kernel
theorem dX9_receiver_227 : decode cX9_receiver 227 = .ok (.ireturn, 1) := by decide +kernel
theorem dX9_delivered_0 : decode cX9_delivered 0 = .ok (.aload_n 0, 1) := by decide +kernel
theorem dX9_delivered_1 : decode cX9_delivered 1 = .ok (.iload_n 1, 1) := by decide +kernel
theorem dX9_delivered_2 : decode cX9_delivered 2 = .ok (.iload_n 2, 1) := by decide +kernel
theorem dX9_delivered_3 : decode cX9_delivered 3 = .ok (.invokevirtual 269, 3) := by decide +kernel
theorem dX9_delivered_6 : decode cX9_delivered 6 = .ok (.ifCond .ne 5, 3) := by decide +kernel
theorem dX9_delivered_9 : decode cX9_delivered 9 = .ok (.iconst (-1), 1) := by decide +kernel
theorem dX9_delivered_10 : decode cX9_delivered 10 = .ok (.ireturn, 1) := by decide +kernel
theorem dX9_delivered_11 : decode cX9_delivered 11 = .ok (.iload_n 1, 1) := by decide +kernel
theorem dX9_delivered_12 : decode cX9_delivered 12 = .ok (.iload_n 2, 1) := by decide +kernel
theorem dX9_delivered_13 : decode cX9_delivered 13 = .ok (.invokestatic 258, 3) := by decide +kernel
theorem dX9_delivered_16 : decode cX9_delivered 16 = .ok (.istore 4, 2) := by decide +kernel
theorem dX9_delivered_18 : decode cX9_delivered 18 = .ok (.iload_n 3, 1) := by decide +kernel
theorem dX9_delivered_19 : decode cX9_delivered 19 = .ok (.tableswitch 125 0 5 #[37, 45, 53, 61, 109, 117], 37) := by decide +kernel
theorem dX9_delivered_56 : decode cX9_delivered 56 = .ok (.aload_n 0, 1) := by decide +kernel
theorem dX9_delivered_57 : decode cX9_delivered 57 = .ok (.getfield 162, 3) := by decide +kernel
theorem dX9_delivered_60 : decode cX9_delivered 60 = .ok (.iload 4, 2) := by decide +kernel
theorem dX9_delivered_62 : decode cX9_delivered 62 = .ok (.iaload, 1) := by decide +kernel
theorem dX9_delivered_63 : decode cX9_delivered 63 = .ok (.ireturn, 1) := by decide +kernel
theorem dX9_delivered_64 : decode cX9_delivered 64 = .ok (.aload_n 0, 1) := by decide +kernel
theorem dX9_delivered_65 : decode cX9_delivered 65 = .ok (.getfield 165, 3) := by decide +kernel
theorem dX9_delivered_68 : decode cX9_delivered 68 = .ok (.iload 4, 2) := by decide +kernel
theorem dX9_delivered_70 : decode cX9_delivered 70 = .ok (.iaload, 1) := by decide +kernel
theorem dX9_delivered_71 : decode cX9_delivered 71 = .ok (.ireturn, 1) := by decide +kernel
theorem dX9_delivered_72 : decode cX9_delivered 72 = .ok (.aload_n 0, 1) := by decide +kernel
theorem dX9_delivered_73 : decode cX9_delivered 73 = .ok (.getfield 168, 3) := by decide +kernel
theorem dX9_delivered_76 : decode cX9_delivered 76 = .ok (.iload 4, 2) := by decide +kernel
theorem dX9_delivered_78 : decode cX9_delivered 78 = .ok (.iaload, 1) := by decide +kernel
theorem dX9_delivered_79 : decode cX9_delivered 79 = .ok (.ireturn, 1) := by decide +kernel
theorem dX9_delivered_80 : decode cX9_delivered 80 = .ok (.iconst 0, 1) := by decide +kernel
theorem dX9_delivered_81 : decode cX9_delivered 81 = .ok (.istore 5, 2) := by decide +kernel
theorem dX9_delivered_83 : decode cX9_delivered 83 = .ok (.iconst 0, 1) := by decide +kernel
theorem dX9_delivered_84 : decode cX9_delivered 84 = .ok (.istore 6, 2) := by decide +kernel
theorem dX9_delivered_86 : decode cX9_delivered 86 = .ok (.iload 6, 2) := by decide +kernel
theorem dX9_delivered_88 : decode cX9_delivered 88 = .ok (.bipush 32, 2) := by decide +kernel
theorem dX9_delivered_90 : decode cX9_delivered 90 = .ok (.if_icmp .ge 35, 3) := by decide +kernel
theorem dX9_delivered_93 : decode cX9_delivered 93 = .ok (.iload 5, 2) := by decide +kernel
theorem dX9_delivered_95 : decode cX9_delivered 95 = .ok (.aload_n 0, 1) := by decide +kernel
theorem dX9_delivered_96 : decode cX9_delivered 96 = .ok (.getfield 186, 3) := by decide +kernel
theorem dX9_delivered_99 : decode cX9_delivered 99 = .ok (.bipush 32, 2) := by decide +kernel
theorem dX9_delivered_101 : decode cX9_delivered 101 = .ok (.iload 4, 2) := by decide +kernel
theorem dX9_delivered_103 : decode cX9_delivered 103 = .ok (.imul, 1) := by decide +kernel
theorem dX9_delivered_104 : decode cX9_delivered 104 = .ok (.iload 6, 2) := by decide +kernel
theorem dX9_delivered_106 : decode cX9_delivered 106 = .ok (.iadd, 1) := by decide +kernel
theorem dX9_delivered_107 : decode cX9_delivered 107 = .ok (.baload, 1) := by decide +kernel
theorem dX9_delivered_108 : decode cX9_delivered 108 = .ok (.ifCond .eq 7, 3) := by decide +kernel
theorem dX9_delivered_111 : decode cX9_delivered 111 = .ok (.iconst 1, 1) := by decide +kernel
theorem dX9_delivered_112 : decode cX9_delivered 112 = .ok (.goto 4, 3) := by decide +kernel
theorem dX9_delivered_115 : decode cX9_delivered 115 = .ok (.iconst 0, 1) := by decide +kernel
theorem dX9_delivered_116 : decode cX9_delivered 116 = .ok (.iadd, 1) := by decide +kernel
theorem dX9_delivered_117 : decode cX9_delivered 117 = .ok (.istore 5, 2) := by decide +kernel
theorem dX9_delivered_119 : decode cX9_delivered 119 = .ok (.iinc 6 1, 3) := by decide +kernel
theorem dX9_delivered_122 : decode cX9_delivered 122 = .ok (.goto (-36), 3) := by decide +kernel
theorem dX9_delivered_125 : decode cX9_delivered 125 = .ok (.iload 5, 2) := by decide +kernel
theorem dX9_delivered_127 : decode cX9_delivered 127 = .ok (.ireturn, 1) := by decide +kernel
theorem dX9_delivered_128 : decode cX9_delivered 128 = .ok (.aload_n 0, 1) := by decide +kernel
theorem dX9_delivered_129 : decode cX9_delivered 129 = .ok (.getfield 171, 3) := by decide +kernel
theorem dX9_delivered_132 : decode cX9_delivered 132 = .ok (.iload 4, 2) := by decide +kernel
theorem dX9_delivered_134 : decode cX9_delivered 134 = .ok (.iaload, 1) := by decide +kernel
theorem dX9_delivered_135 : decode cX9_delivered 135 = .ok (.ireturn, 1) := by decide +kernel
theorem dX9_delivered_136 : decode cX9_delivered 136 = .ok (.aload_n 0, 1) := by decide +kernel
theorem dX9_delivered_137 : decode cX9_delivered 137 = .ok (.getfield 174, 3) := by decide +kernel
theorem dX9_delivered_140 : decode cX9_delivered 140 = .ok (.iload 4, 2) := by decide +kernel
theorem dX9_delivered_142 : decode cX9_delivered 142 = .ok (.iaload, 1) := by decide +kernel
theorem dX9_delivered_143 : decode cX9_delivered 143 = .ok (.ireturn, 1) := by decide +kernel
theorem dX9_delivered_144 : decode cX9_delivered 144 = .ok (.iconst (-1), 1) := by decide +kernel
theorem dX9_delivered_145 : decode cX9_delivered 145 = .ok (.ireturn, 1) := by decide +kernel
theorem dX9_unit_0 : decode cX9_unit 0 = .ok (.aload_n 0, 1) := by decide +kernel
theorem dX9_unit_1 : decode cX9_unit 1 = .ok (.iload_n 1, 1) := by decide +kernel
theorem dX9_unit_2 : decode cX9_unit 2 = .ok (.iload_n 2, 1) := by decide +kernel
theorem dX9_unit_3 : decode cX9_unit 3 = .ok (.invokevirtual 269, 3) := by decide +kernel
theorem dX9_unit_6 : decode cX9_unit 6 = .ok (.ifCond .eq 21, 3) := by decide +kernel
theorem dX9_unit_9 : decode cX9_unit 9 = .ok (.iload_n 3, 1) := by decide +kernel
theorem dX9_unit_10 : decode cX9_unit 10 = .ok (.ifCond .lt 17, 3) := by decide +kernel
theorem dX9_unit_13 : decode cX9_unit 13 = .ok (.iload_n 3, 1) := by decide +kernel
theorem dX9_unit_14 : decode cX9_unit 14 = .ok (.aload_n 0, 1) := by decide +kernel
theorem dX9_unit_15 : decode cX9_unit 15 = .ok (.getfield 174, 3) := by decide +kernel
theorem dX9_unit_18 : decode cX9_unit 18 = .ok (.iload_n 1, 1) := by decide +kernel
theorem dX9_unit_19 : decode cX9_unit 19 = .ok (.iload_n 2, 1) := by decide +kernel
theorem dX9_unit_20 : decode cX9_unit 20 = .ok (.invokestatic 258, 3) := by decide +kernel
theorem dX9_unit_23 : decode cX9_unit 23 = .ok (.iaload, 1) := by decide +kernel
theorem dX9_unit_24 : decode cX9_unit 24 = .ok (.if_icmp .lt 5, 3) := by decide +kernel
theorem dX9_unit_27 : decode cX9_unit 27 = .ok (.iconst (-1), 1) := by decide +kernel
theorem dX9_unit_28 : decode cX9_unit 28 = .ok (.ireturn, 1) := by decide +kernel
theorem dX9_unit_29 : decode cX9_unit 29 = .ok (.aload_n 0, 1) := by decide +kernel
theorem dX9_unit_30 : decode cX9_unit 30 = .ok (.getfield 183, 3) := by decide +kernel
theorem dX9_unit_33 : decode cX9_unit 33 = .ok (.bipush 120, 2) := by decide +kernel
theorem dX9_unit_35 : decode cX9_unit 35 = .ok (.iload_n 1, 1) := by decide +kernel
theorem dX9_unit_36 : decode cX9_unit 36 = .ok (.iload_n 2, 1) := by decide +kernel
theorem dX9_unit_37 : decode cX9_unit 37 = .ok (.invokestatic 258, 3) := by decide +kernel
theorem dX9_unit_40 : decode cX9_unit 40 = .ok (.imul, 1) := by decide +kernel
theorem dX9_unit_41 : decode cX9_unit 41 = .ok (.iload_n 3, 1) := by decide +kernel
theorem dX9_unit_42 : decode cX9_unit 42 = .ok (.iadd, 1) := by decide +kernel
theorem dX9_unit_43 : decode cX9_unit 43 = .ok (.iaload, 1) := by decide +kernel
theorem dX9_unit_44 : decode cX9_unit 44 = .ok (.ireturn, 1) := by decide +kernel
theorem dX9_process_0 : decode cX9_process 0 = .ok (.iload_n 1, 1) := by decide +kernel
theorem dX9_process_1 : decode cX9_process 1 = .ok (.ifCond .lt 17, 3) := by decide +kernel
theorem dX9_process_4 : decode cX9_process 4 = .ok (.iload_n 1, 1) := by decide +kernel
theorem dX9_process_5 : decode cX9_process 5 = .ok (.iconst 1, 1) := by decide +kernel
theorem dX9_process_6 : decode cX9_process 6 = .ok (.if_icmp .gt 12, 3) := by decide +kernel
theorem dX9_process_9 : decode cX9_process 9 = .ok (.iload_n 2, 1) := by decide +kernel
theorem dX9_process_10 : decode cX9_process 10 = .ok (.ifCond .lt 8, 3) := by decide +kernel
theorem dX9_process_13 : decode cX9_process 13 = .ok (.iload_n 2, 1) := by decide +kernel
theorem dX9_process_14 : decode cX9_process 14 = .ok (.iconst 3, 1) := by decide +kernel
theorem dX9_process_15 : decode cX9_process 15 = .ok (.if_icmp .le 5, 3) := by decide +kernel
theorem dX9_process_18 : decode cX9_process 18 = .ok (.iconst (-1), 1) := by decide +kernel
theorem dX9_process_19 : decode cX9_process 19 = .ok (.ireturn, 1) := by decide +kernel
theorem dX9_process_20 : decode cX9_process 20 = .ok (.iconst 4, 1) := by decide +kernel
theorem dX9_process_21 : decode cX9_process 21 = .ok (.iload_n 1, 1) := by decide +kernel
theorem dX9_process_22 : decode cX9_process 22 = .ok (.imul, 1) := by decide +kernel
theorem dX9_process_23 : decode cX9_process 23 = .ok (.iload_n 2, 1) := by decide +kernel
theorem dX9_process_24 : decode cX9_process 24 = .ok (.iadd, 1) := by decide +kernel
theorem dX9_process_25 : decode cX9_process 25 = .ok (.istore 4, 2) := by decide +kernel
theorem dX9_process_27 : decode cX9_process 27 = .ok (.aload_n 0, 1) := by decide +kernel
theorem dX9_process_28 : decode cX9_process 28 = .ok (.getfield 189, 3) := by decide +kernel
theorem dX9_process_31 : decode cX9_process 31 = .ok (.iload 4, 2) := by decide +kernel
theorem dX9_process_33 : decode cX9_process 33 = .ok (.iaload, 1) := by decide +kernel
theorem dX9_process_34 : decode cX9_process 34 = .ok (.ifCond .le 7, 3) := by decide +kernel
theorem dX9_process_37 : decode cX9_process 37 = .ok (.iconst 1, 1) := by decide +kernel
theorem dX9_process_38 : decode cX9_process 38 = .ok (.goto 4, 3) := by decide +kernel
theorem dX9_process_41 : decode cX9_process 41 = .ok (.iconst 0, 1) := by decide +kernel
theorem dX9_process_42 : decode cX9_process 42 = .ok (.istore 5, 2) := by decide +kernel
theorem dX9_process_44 : decode cX9_process 44 = .ok (.iload_n 3, 1) := by decide +kernel
theorem dX9_process_45 : decode cX9_process 45 = .ok (.tableswitch 73 0 2 #[27, 35, 52], 27) := by decide +kernel
theorem dX9_process_72 : decode cX9_process 72 = .ok (.aload_n 0, 1) := by decide +kernel
theorem dX9_process_73 : decode cX9_process 73 = .ok (.getfield 189, 3) := by decide +kernel
theorem dX9_process_76 : decode cX9_process 76 = .ok (.iload 4, 2) := by decide +kernel
theorem dX9_process_78 : decode cX9_process 78 = .ok (.iaload, 1) := by decide +kernel
theorem dX9_process_79 : decode cX9_process 79 = .ok (.ireturn, 1) := by decide +kernel
theorem dX9_process_80 : decode cX9_process 80 = .ok (.iload 5, 2) := by decide +kernel
theorem dX9_process_82 : decode cX9_process 82 = .ok (.ifCond .eq 13, 3) := by decide +kernel
theorem dX9_process_85 : decode cX9_process 85 = .ok (.aload_n 0, 1) := by decide +kernel
theorem dX9_process_86 : decode cX9_process 86 = .ok (.getfield 192, 3) := by decide +kernel
theorem dX9_process_89 : decode cX9_process 89 = .ok (.iload 4, 2) := by decide +kernel
theorem dX9_process_91 : decode cX9_process 91 = .ok (.iaload, 1) := by decide +kernel
theorem dX9_process_92 : decode cX9_process 92 = .ok (.goto 4, 3) := by decide +kernel
theorem dX9_process_95 : decode cX9_process 95 = .ok (.iconst 0, 1) := by decide +kernel
theorem dX9_process_96 : decode cX9_process 96 = .ok (.ireturn, 1) := by decide +kernel
theorem dX9_process_97 : decode cX9_process 97 = .ok (.iload 5, 2) := by decide +kernel
theorem dX9_process_99 : decode cX9_process 99 = .ok (.ifCond .eq 17, 3) := by decide +kernel
theorem dX9_process_102 : decode cX9_process 102 = .ok (.aload_n 0, 1) := by decide +kernel
theorem dX9_process_103 : decode cX9_process 103 = .ok (.getfield 198, 3) := by decide +kernel
theorem dX9_process_106 : decode cX9_process 106 = .ok (.iload 4, 2) := by decide +kernel
theorem dX9_process_108 : decode cX9_process 108 = .ok (.baload, 1) := by decide +kernel
theorem dX9_process_109 : decode cX9_process 109 = .ok (.ifCond .eq 7, 3) := by decide +kernel
theorem dX9_process_112 : decode cX9_process 112 = .ok (.iconst 1, 1) := by decide +kernel
theorem dX9_process_113 : decode cX9_process 113 = .ok (.goto 4, 3) := by decide +kernel
theorem dX9_process_116 : decode cX9_process 116 = .ok (.iconst 0, 1) := by decide +kernel
theorem dX9_process_117 : decode cX9_process 117 = .ok (.ireturn, 1) := by decide +kernel
theorem dX9_process_118 : decode cX9_process 118 = .ok (.iconst (-1), 1) := by decide +kernel
theorem dX9_process_119 : decode cX9_process 119 = .ok (.ireturn, 1) := by decide +kernel
theorem dX9_world_0 : decode cX9_world 0 = .ok (.iload_n 1, 1) := by decide +kernel
theorem dX9_world_1 : decode cX9_world 1 = .ok (.tableswitch 78 0 6 #[43, 48, 53, 58, 63, 68, 73], 43) := by decide +kernel
theorem dX9_world_44 : decode cX9_world 44 = .ok (.aload_n 0, 1) := by decide +kernel
theorem dX9_world_45 : decode cX9_world 45 = .ok (.getfield 363, 3) := by decide +kernel
theorem dX9_world_48 : decode cX9_world 48 = .ok (.ireturn, 1) := by decide +kernel
theorem dX9_world_49 : decode cX9_world 49 = .ok (.aload_n 0, 1) := by decide +kernel
theorem dX9_world_50 : decode cX9_world 50 = .ok (.getfield 246, 3) := by decide +kernel
theorem dX9_world_53 : decode cX9_world 53 = .ok (.ireturn, 1) := by decide +kernel
theorem dX9_world_54 : decode cX9_world 54 = .ok (.aload_n 0, 1) := by decide +kernel
theorem dX9_world_55 : decode cX9_world 55 = .ok (.getfield 369, 3) := by decide +kernel
theorem dX9_world_58 : decode cX9_world 58 = .ok (.ireturn, 1) := by decide +kernel
theorem dX9_world_59 : decode cX9_world 59 = .ok (.aload_n 0, 1) := by decide +kernel
theorem dX9_world_60 : decode cX9_world 60 = .ok (.getfield 372, 3) := by decide +kernel
theorem dX9_world_63 : decode cX9_world 63 = .ok (.ireturn, 1) := by decide +kernel
theorem dX9_world_64 : decode cX9_world 64 = .ok (.aload_n 0, 1) := by decide +kernel
theorem dX9_world_65 : decode cX9_world 65 = .ok (.getfield 375, 3) := by decide +kernel
theorem dX9_world_68 : decode cX9_world 68 = .ok (.ireturn, 1) := by decide +kernel
theorem dX9_world_69 : decode cX9_world 69 = .ok (.aload_n 0, 1) := by decide +kernel
theorem dX9_world_70 : decode cX9_world 70 = .ok (.getfield 381, 3) := by decide +kernel
theorem dX9_world_73 : decode cX9_world 73 = .ok (.ireturn, 1) := by decide +kernel
theorem dX9_world_74 : decode cX9_world 74 = .ok (.aload_n 0, 1) := by decide +kernel
theorem dX9_world_75 : decode cX9_world 75 = .ok (.getfield 384, 3) := by decide +kernel
theorem dX9_world_78 : decode cX9_world 78 = .ok (.ireturn, 1) := by decide +kernel
theorem dX9_world_79 : decode cX9_world 79 = .ok (.iconst (-1), 1) := by decide +kernel
theorem dX9_world_80 : decode cX9_world 80 = .ok (.ireturn, 1) := by decide +kernel
theorem dJ9_max_7cf53_0 : decode cJ9_max_7cf53 0 = .ok (.iload_n 0, 1) := by decide +kernel
theorem dJ9_max_7cf53_1 : decode cJ9_max_7cf53 1 = .ok (.iload_n 1, 1) := by decide +kernel
theorem dJ9_max_7cf53_2 : decode cJ9_max_7cf53 2 = .ok (.if_icmp .lt 7, 3) := by decide +kernel
theorem dJ9_max_7cf53_5 : decode cJ9_max_7cf53 5 = .ok (.iload_n 0, 1) := by decide +kernel
theorem dJ9_max_7cf53_6 : decode cJ9_max_7cf53 6 = .ok (.goto 4, 3) := by decide +kernel
theorem dJ9_max_7cf53_9 : decode cJ9_max_7cf53 9 = .ok (.iload_n 1, 1) := by decide +kernel
theorem dJ9_max_7cf53_10 : decode cJ9_max_7cf53 10 = .ok (.ireturn, 1) := by decide +kernel
theorem dJ9_min_7cf53_0 : decode cJ9_min_7cf53 0 = .ok (.iload_n 0, 1) := by decide +kernel
theorem dJ9_min_7cf53_1 : decode cJ9_min_7cf53 1 = .ok (.iload_n 1, 1) := by decide +kernel
theorem dJ9_min_7cf53_2 : decode cJ9_min_7cf53 2 = .ok (.if_icmp .gt 7, 3) := by decide +kernel
theorem dJ9_min_7cf53_5 : decode cJ9_min_7cf53 5 = .ok (.iload_n 0, 1) := by decide +kernel
theorem dJ9_min_7cf53_6 : decode cJ9_min_7cf53 6 = .ok (.goto 4, 3) := by decide +kernel
theorem dJ9_min_7cf53_9 : decode cJ9_min_7cf53 9 = .ok (.iload_n 1, 1) := by decide +kernel
theorem dJ9_min_7cf53_10 : decode cJ9_min_7cf53 10 = .ok (.ireturn, 1) := by decide +kernel
theorem dJ7_fill_53178_0 : decode cJ7_fill_53178 0 = .ok (.iconst 0, 1) := by decide +kernel
theorem dJ7_fill_53178_1 : decode cJ7_fill_53178 1 = .ok (.istore_n 2, 1) := by decide +kernel
theorem dJ7_fill_53178_2 : decode cJ7_fill_53178 2 = .ok (.aload_n 0, 1) := by decide +kernel
theorem dJ7_fill_53178_3 : decode cJ7_fill_53178 3 = .ok (.arraylength, 1) := by decide +kernel
theorem dJ7_fill_53178_4 : decode cJ7_fill_53178 4 = .ok (.istore_n 3, 1) := by decide +kernel
theorem dJ7_fill_53178_5 : decode cJ7_fill_53178 5 = .ok (.iload_n 2, 1) := by decide +kernel
theorem dJ7_fill_53178_6 : decode cJ7_fill_53178 6 = .ok (.iload_n 3, 1) := by decide +kernel
theorem dJ7_fill_53178_7 : decode cJ7_fill_53178 7 = .ok (.if_icmp .ge 13, 3) := by decide +kernel
theorem dJ7_fill_53178_10 : decode cJ7_fill_53178 10 = .ok (.aload_n 0, 1) := by decide +kernel
theorem dJ7_fill_53178_11 : decode cJ7_fill_53178 11 = .ok (.iload_n 2, 1) := by decide +kernel
theorem dJ7_fill_53178_12 : decode cJ7_fill_53178 12 = .ok (.iload_n 1, 1) := by decide +kernel
theorem dJ7_fill_53178_13 : decode cJ7_fill_53178 13 = .ok (.iastore, 1) := by decide +kernel
theorem dJ7_fill_53178_14 : decode cJ7_fill_53178 14 = .ok (.iinc 2 1, 3) := by decide +kernel
theorem dJ7_fill_53178_17 : decode cJ7_fill_53178 17 = .ok (.goto (-12), 3) := by decide +kernel
theorem dJ7_fill_53178_20 : decode cJ7_fill_53178 20 = .ok (.return_, 1) := by decide +kernel
theorem dL_cell_0 : decode cL_cell 0 = .ok (.iload_n 1, 1) := by decide +kernel
theorem dL_cell_1 : decode cL_cell 1 = .ok (.aload_n 0, 1) := by decide +kernel
theorem dL_cell_2 : decode cL_cell 2 = .ok (.arraylength, 1) := by decide +kernel
theorem dL_cell_3 : decode cL_cell 3 = .ok (.if_icmp .ge 9, 3) := by decide +kernel
theorem dL_cell_6 : decode cL_cell 6 = .ok (.aload_n 0, 1) := by decide +kernel
theorem dL_cell_7 : decode cL_cell 7 = .ok (.iload_n 1, 1) := by decide +kernel
theorem dL_cell_8 : decode cL_cell 8 = .ok (.iaload, 1) := by decide +kernel
theorem dL_cell_9 : decode cL_cell 9 = .ok (.goto 4, 3) := by decide +kernel
theorem dL_cell_12 : decode cL_cell 12 = .ok (.iconst 0, 1) := by decide +kernel
theorem dL_cell_13 : decode cL_cell 13 = .ok (.ireturn, 1) := by decide +kernel
theorem dL_law_0 : decode cL_law 0 = .ok (.new 7, 3) := by decide +kernel
theorem dL_law_3 : decode cL_law 3 = .ok (.dup, 1) := by decide +kernel
theorem dL_law_4 : decode cL_law 4 = .ok (.aload_n 0, 1) := by decide +kernel
theorem dL_law_5 : decode cL_law 5 = .ok (.iconst 0, 1) := by decide +kernel
theorem dL_law_6 : decode cL_law 6 = .ok (.invokestatic 9, 3) := by decide +kernel
theorem dL_law_9 : decode cL_law 9 = .ok (.aload_n 0, 1) := by decide +kernel
theorem dL_law_10 : decode cL_law 10 = .ok (.iconst 1, 1) := by decide +kernel
theorem dL_law_11 : decode cL_law 11 = .ok (.invokestatic 9, 3) := by decide +kernel
theorem dL_law_14 : decode cL_law 14 = .ok (.invokespecial 15, 3) := by decide +kernel
theorem dL_law_17 : decode cL_law 17 = .ok (.astore_n 1, 1) := by decide +kernel
theorem dL_law_18 : decode cL_law 18 = .ok (.new 18, 3) := by decide +kernel
theorem dL_law_21 : decode cL_law 21 = .ok (.dup, 1) := by decide +kernel
theorem dL_law_22 : decode cL_law 22 = .ok (.aload_n 0, 1) := by decide +kernel
theorem dL_law_23 : decode cL_law 23 = .ok (.iconst 0, 1) := by decide +kernel
theorem dL_law_24 : decode cL_law 24 = .ok (.invokestatic 9, 3) := by decide +kernel
theorem dL_law_27 : decode cL_law 27 = .ok (.aload_n 0, 1) := by decide +kernel
theorem dL_law_28 : decode cL_law 28 = .ok (.iconst 1, 1) := by decide +kernel
theorem dL_law_29 : decode cL_law 29 = .ok (.invokestatic 9, 3) := by decide +kernel
theorem dL_law_32 : decode cL_law 32 = .ok (.invokespecial 20, 3) := by decide +kernel
theorem dL_law_35 : decode cL_law 35 = .ok (.astore_n 2, 1) := by decide +kernel
theorem dL_law_36 : decode cL_law 36 = .ok (.iconst 2, 1) := by decide +kernel
theorem dL_law_37 : decode cL_law 37 = .ok (.istore_n 3, 1) := by decide +kernel
theorem dL_law_38 : decode cL_law 38 = .ok (.iload_n 3, 1) := by decide +kernel
theorem dL_law_39 : decode cL_law 39 = .ok (.aload_n 0, 1) := by decide +kernel
theorem dL_law_40 : decode cL_law 40 = .ok (.arraylength, 1) := by decide +kernel
theorem dL_law_41 : decode cL_law 41 = .ok (.bipush 6, 2) := by decide +kernel
theorem dL_law_43 : decode cL_law 43 = .ok (.isub, 1) := by decide +kernel
theorem dL_law_44 : decode cL_law 44 = .ok (.if_icmp .gt 561, 3) := by decide +kernel
theorem dL_law_47 : decode cL_law 47 = .ok (.aload_n 0, 1) := by decide +kernel
theorem dL_law_48 : decode cL_law 48 = .ok (.iload_n 3, 1) := by decide +kernel
theorem dL_law_49 : decode cL_law 49 = .ok (.iaload, 1) := by decide +kernel
theorem dL_law_50 : decode cL_law 50 = .ok (.bipush 15, 2) := by decide +kernel
theorem dL_law_52 : decode cL_law 52 = .ok (.iand, 1) := by decide +kernel
theorem dL_law_53 : decode cL_law 53 = .ok (.tableswitch 546 0 12 #[67, 130, 153, 186, 219, 262, 275, 308, 351, 394, 437, 480, 523], 67) := by decide +kernel
theorem dL_law_120 : decode cL_law 120 = .ok (.aload_n 1, 1) := by decide +kernel
theorem dL_law_121 : decode cL_law 121 = .ok (.aload_n 0, 1) := by decide +kernel
theorem dL_law_122 : decode cL_law 122 = .ok (.iload_n 3, 1) := by decide +kernel
theorem dL_law_123 : decode cL_law 123 = .ok (.iconst 1, 1) := by decide +kernel
theorem dL_law_124 : decode cL_law 124 = .ok (.iadd, 1) := by decide +kernel
theorem dL_law_125 : decode cL_law 125 = .ok (.iaload, 1) := by decide +kernel
theorem dL_law_126 : decode cL_law 126 = .ok (.aload_n 0, 1) := by decide +kernel
theorem dL_law_127 : decode cL_law 127 = .ok (.iload_n 3, 1) := by decide +kernel
theorem dL_law_128 : decode cL_law 128 = .ok (.iconst 2, 1) := by decide +kernel
theorem dL_law_129 : decode cL_law 129 = .ok (.iadd, 1) := by decide +kernel
theorem dL_law_130 : decode cL_law 130 = .ok (.iaload, 1) := by decide +kernel
theorem dL_law_131 : decode cL_law 131 = .ok (.aload_n 0, 1) := by decide +kernel
theorem dL_law_132 : decode cL_law 132 = .ok (.iload_n 3, 1) := by decide +kernel
theorem dL_law_133 : decode cL_law 133 = .ok (.iconst 3, 1) := by decide +kernel
theorem dL_law_134 : decode cL_law 134 = .ok (.iadd, 1) := by decide +kernel
theorem dL_law_135 : decode cL_law 135 = .ok (.iaload, 1) := by decide +kernel
theorem dL_law_136 : decode cL_law 136 = .ok (.aload_n 0, 1) := by decide +kernel
theorem dL_law_137 : decode cL_law 137 = .ok (.iload_n 3, 1) := by decide +kernel
theorem dL_law_138 : decode cL_law 138 = .ok (.iconst 4, 1) := by decide +kernel
theorem dL_law_139 : decode cL_law 139 = .ok (.iadd, 1) := by decide +kernel
theorem dL_law_140 : decode cL_law 140 = .ok (.iaload, 1) := by decide +kernel
theorem dL_law_141 : decode cL_law 141 = .ok (.aload_n 0, 1) := by decide +kernel
theorem dL_law_142 : decode cL_law 142 = .ok (.iload_n 3, 1) := by decide +kernel
theorem dL_law_143 : decode cL_law 143 = .ok (.iconst 5, 1) := by decide +kernel
theorem dL_law_144 : decode cL_law 144 = .ok (.iadd, 1) := by decide +kernel
theorem dL_law_145 : decode cL_law 145 = .ok (.iaload, 1) := by decide +kernel
theorem dL_law_146 : decode cL_law 146 = .ok (.invokevirtual 21, 3) := by decide +kernel
theorem dL_law_149 : decode cL_law 149 = .ok (.aload_n 2, 1) := by decide +kernel
theorem dL_law_150 : decode cL_law 150 = .ok (.aload_n 0, 1) := by decide +kernel
theorem dL_law_151 : decode cL_law 151 = .ok (.iload_n 3, 1) := by decide +kernel
theorem dL_law_152 : decode cL_law 152 = .ok (.iconst 1, 1) := by decide +kernel
theorem dL_law_153 : decode cL_law 153 = .ok (.iadd, 1) := by decide +kernel
theorem dL_law_154 : decode cL_law 154 = .ok (.iaload, 1) := by decide +kernel
theorem dL_law_155 : decode cL_law 155 = .ok (.aload_n 0, 1) := by decide +kernel
theorem dL_law_156 : decode cL_law 156 = .ok (.iload_n 3, 1) := by decide +kernel
theorem dL_law_157 : decode cL_law 157 = .ok (.iconst 2, 1) := by decide +kernel
theorem dL_law_158 : decode cL_law 158 = .ok (.iadd, 1) := by decide +kernel
theorem dL_law_159 : decode cL_law 159 = .ok (.iaload, 1) := by decide +kernel
theorem dL_law_160 : decode cL_law 160 = .ok (.aload_n 0, 1) := by decide +kernel
theorem dL_law_161 : decode cL_law 161 = .ok (.iload_n 3, 1) := by decide +kernel
theorem dL_law_162 : decode cL_law 162 = .ok (.iconst 3, 1) := by decide +kernel
theorem dL_law_163 : decode cL_law 163 = .ok (.iadd, 1) := by decide +kernel
theorem dL_law_164 : decode cL_law 164 = .ok (.iaload, 1) := by decide +kernel
theorem dL_law_165 : decode cL_law 165 = .ok (.aload_n 0, 1) := by decide +kernel
theorem dL_law_166 : decode cL_law 166 = .ok (.iload_n 3, 1) := by decide +kernel
theorem dL_law_167 : decode cL_law 167 = .ok (.iconst 4, 1) := by decide +kernel
theorem dL_law_168 : decode cL_law 168 = .ok (.iadd, 1) := by decide +kernel
theorem dL_law_169 : decode cL_law 169 = .ok (.iaload, 1) := by decide +kernel
theorem dL_law_170 : decode cL_law 170 = .ok (.aload_n 0, 1) := by decide +kernel
theorem dL_law_171 : decode cL_law 171 = .ok (.iload_n 3, 1) := by decide +kernel
theorem dL_law_172 : decode cL_law 172 = .ok (.iconst 5, 1) := by decide +kernel
theorem dL_law_173 : decode cL_law 173 = .ok (.iadd, 1) := by decide +kernel
theorem dL_law_174 : decode cL_law 174 = .ok (.iaload, 1) := by decide +kernel
theorem dL_law_175 : decode cL_law 175 = .ok (.invokevirtual 25, 3) := by decide +kernel
theorem dL_law_178 : decode cL_law 178 = .ok (.if_icmp .eq 421, 3) := by decide +kernel
theorem dL_law_181 : decode cL_law 181 = .ok (.iconst 0, 1) := by decide +kernel
theorem dL_law_182 : decode cL_law 182 = .ok (.ireturn, 1) := by decide +kernel
theorem dL_law_183 : decode cL_law 183 = .ok (.aload_n 1, 1) := by decide +kernel
theorem dL_law_184 : decode cL_law 184 = .ok (.aload_n 0, 1) := by decide +kernel
theorem dL_law_185 : decode cL_law 185 = .ok (.iload_n 3, 1) := by decide +kernel
theorem dL_law_186 : decode cL_law 186 = .ok (.iconst 1, 1) := by decide +kernel
theorem dL_law_187 : decode cL_law 187 = .ok (.iadd, 1) := by decide +kernel
theorem dL_law_188 : decode cL_law 188 = .ok (.iaload, 1) := by decide +kernel
theorem dL_law_189 : decode cL_law 189 = .ok (.invokevirtual 26, 3) := by decide +kernel
theorem dL_law_192 : decode cL_law 192 = .ok (.aload_n 2, 1) := by decide +kernel
theorem dL_law_193 : decode cL_law 193 = .ok (.aload_n 0, 1) := by decide +kernel
theorem dL_law_194 : decode cL_law 194 = .ok (.iload_n 3, 1) := by decide +kernel
theorem dL_law_195 : decode cL_law 195 = .ok (.iconst 1, 1) := by decide +kernel
theorem dL_law_196 : decode cL_law 196 = .ok (.iadd, 1) := by decide +kernel
theorem dL_law_197 : decode cL_law 197 = .ok (.iaload, 1) := by decide +kernel
theorem dL_law_198 : decode cL_law 198 = .ok (.invokevirtual 30, 3) := by decide +kernel
theorem dL_law_201 : decode cL_law 201 = .ok (.if_icmp .eq 398, 3) := by decide +kernel
theorem dL_law_204 : decode cL_law 204 = .ok (.iconst 0, 1) := by decide +kernel
theorem dL_law_205 : decode cL_law 205 = .ok (.ireturn, 1) := by decide +kernel
theorem dL_law_206 : decode cL_law 206 = .ok (.aload_n 1, 1) := by decide +kernel
theorem dL_law_207 : decode cL_law 207 = .ok (.aload_n 0, 1) := by decide +kernel
theorem dL_law_208 : decode cL_law 208 = .ok (.iload_n 3, 1) := by decide +kernel
theorem dL_law_209 : decode cL_law 209 = .ok (.iconst 1, 1) := by decide +kernel
theorem dL_law_210 : decode cL_law 210 = .ok (.iadd, 1) := by decide +kernel
theorem dL_law_211 : decode cL_law 211 = .ok (.iaload, 1) := by decide +kernel
theorem dL_law_212 : decode cL_law 212 = .ok (.aload_n 0, 1) := by decide +kernel
theorem dL_law_213 : decode cL_law 213 = .ok (.iload_n 3, 1) := by decide +kernel
theorem dL_law_214 : decode cL_law 214 = .ok (.iconst 2, 1) := by decide +kernel
theorem dL_law_215 : decode cL_law 215 = .ok (.iadd, 1) := by decide +kernel
theorem dL_law_216 : decode cL_law 216 = .ok (.iaload, 1) := by decide +kernel
theorem dL_law_217 : decode cL_law 217 = .ok (.invokevirtual 31, 3) := by decide +kernel
theorem dL_law_220 : decode cL_law 220 = .ok (.aload_n 2, 1) := by decide +kernel
theorem dL_law_221 : decode cL_law 221 = .ok (.aload_n 0, 1) := by decide +kernel
theorem dL_law_222 : decode cL_law 222 = .ok (.iload_n 3, 1) := by decide +kernel
theorem dL_law_223 : decode cL_law 223 = .ok (.iconst 1, 1) := by decide +kernel
theorem dL_law_224 : decode cL_law 224 = .ok (.iadd, 1) := by decide +kernel
theorem dL_law_225 : decode cL_law 225 = .ok (.iaload, 1) := by decide +kernel
theorem dL_law_226 : decode cL_law 226 = .ok (.aload_n 0, 1) := by decide +kernel
theorem dL_law_227 : decode cL_law 227 = .ok (.iload_n 3, 1) := by decide +kernel
theorem dL_law_228 : decode cL_law 228 = .ok (.iconst 2, 1) := by decide +kernel
theorem dL_law_229 : decode cL_law 229 = .ok (.iadd, 1) := by decide +kernel
theorem dL_law_230 : decode cL_law 230 = .ok (.iaload, 1) := by decide +kernel
theorem dL_law_231 : decode cL_law 231 = .ok (.invokevirtual 35, 3) := by decide +kernel
theorem dL_law_234 : decode cL_law 234 = .ok (.if_icmp .eq 365, 3) := by decide +kernel
theorem dL_law_237 : decode cL_law 237 = .ok (.iconst 0, 1) := by decide +kernel
theorem dL_law_238 : decode cL_law 238 = .ok (.ireturn, 1) := by decide +kernel
theorem dL_law_239 : decode cL_law 239 = .ok (.aload_n 1, 1) := by decide +kernel
theorem dL_law_240 : decode cL_law 240 = .ok (.aload_n 0, 1) := by decide +kernel
theorem dL_law_241 : decode cL_law 241 = .ok (.iload_n 3, 1) := by decide +kernel
theorem dL_law_242 : decode cL_law 242 = .ok (.iconst 1, 1) := by decide +kernel
theorem dL_law_243 : decode cL_law 243 = .ok (.iadd, 1) := by decide +kernel
theorem dL_law_244 : decode cL_law 244 = .ok (.iaload, 1) := by decide +kernel
theorem dL_law_245 : decode cL_law 245 = .ok (.aload_n 0, 1) := by decide +kernel
theorem dL_law_246 : decode cL_law 246 = .ok (.iload_n 3, 1) := by decide +kernel
theorem dL_law_247 : decode cL_law 247 = .ok (.iconst 2, 1) := by decide +kernel
theorem dL_law_248 : decode cL_law 248 = .ok (.iadd, 1) := by decide +kernel
theorem dL_law_249 : decode cL_law 249 = .ok (.iaload, 1) := by decide +kernel
theorem dL_law_250 : decode cL_law 250 = .ok (.invokevirtual 36, 3) := by decide +kernel
theorem dL_law_253 : decode cL_law 253 = .ok (.aload_n 2, 1) := by decide +kernel
theorem dL_law_254 : decode cL_law 254 = .ok (.aload_n 0, 1) := by decide +kernel
theorem dL_law_255 : decode cL_law 255 = .ok (.iload_n 3, 1) := by decide +kernel
theorem dL_law_256 : decode cL_law 256 = .ok (.iconst 1, 1) := by decide +kernel
theorem dL_law_257 : decode cL_law 257 = .ok (.iadd, 1) := by decide +kernel
theorem dL_law_258 : decode cL_law 258 = .ok (.iaload, 1) := by decide +kernel
theorem dL_law_259 : decode cL_law 259 = .ok (.aload_n 0, 1) := by decide +kernel
theorem dL_law_260 : decode cL_law 260 = .ok (.iload_n 3, 1) := by decide +kernel
theorem dL_law_261 : decode cL_law 261 = .ok (.iconst 2, 1) := by decide +kernel
theorem dL_law_262 : decode cL_law 262 = .ok (.iadd, 1) := by decide +kernel
theorem dL_law_263 : decode cL_law 263 = .ok (.iaload, 1) := by decide +kernel
theorem dL_law_264 : decode cL_law 264 = .ok (.invokevirtual 40, 3) := by decide +kernel
theorem dL_law_267 : decode cL_law 267 = .ok (.if_icmp .eq 332, 3) := by decide +kernel
theorem dL_law_270 : decode cL_law 270 = .ok (.iconst 0, 1) := by decide +kernel
theorem dL_law_271 : decode cL_law 271 = .ok (.ireturn, 1) := by decide +kernel
theorem dL_law_272 : decode cL_law 272 = .ok (.aload_n 1, 1) := by decide +kernel
theorem dL_law_273 : decode cL_law 273 = .ok (.aload_n 0, 1) := by decide +kernel
theorem dL_law_274 : decode cL_law 274 = .ok (.iload_n 3, 1) := by decide +kernel
theorem dL_law_275 : decode cL_law 275 = .ok (.iconst 1, 1) := by decide +kernel
theorem dL_law_276 : decode cL_law 276 = .ok (.iadd, 1) := by decide +kernel
theorem dL_law_277 : decode cL_law 277 = .ok (.iaload, 1) := by decide +kernel
theorem dL_law_278 : decode cL_law 278 = .ok (.aload_n 0, 1) := by decide +kernel
theorem dL_law_279 : decode cL_law 279 = .ok (.iload_n 3, 1) := by decide +kernel
theorem dL_law_280 : decode cL_law 280 = .ok (.iconst 2, 1) := by decide +kernel
theorem dL_law_281 : decode cL_law 281 = .ok (.iadd, 1) := by decide +kernel
theorem dL_law_282 : decode cL_law 282 = .ok (.iaload, 1) := by decide +kernel
theorem dL_law_283 : decode cL_law 283 = .ok (.aload_n 0, 1) := by decide +kernel
theorem dL_law_284 : decode cL_law 284 = .ok (.iload_n 3, 1) := by decide +kernel
theorem dL_law_285 : decode cL_law 285 = .ok (.iconst 3, 1) := by decide +kernel
theorem dL_law_286 : decode cL_law 286 = .ok (.iadd, 1) := by decide +kernel
theorem dL_law_287 : decode cL_law 287 = .ok (.iaload, 1) := by decide +kernel
theorem dL_law_288 : decode cL_law 288 = .ok (.invokevirtual 41, 3) := by decide +kernel
theorem dL_law_291 : decode cL_law 291 = .ok (.aload_n 2, 1) := by decide +kernel
theorem dL_law_292 : decode cL_law 292 = .ok (.aload_n 0, 1) := by decide +kernel
theorem dL_law_293 : decode cL_law 293 = .ok (.iload_n 3, 1) := by decide +kernel
theorem dL_law_294 : decode cL_law 294 = .ok (.iconst 1, 1) := by decide +kernel
theorem dL_law_295 : decode cL_law 295 = .ok (.iadd, 1) := by decide +kernel
theorem dL_law_296 : decode cL_law 296 = .ok (.iaload, 1) := by decide +kernel
theorem dL_law_297 : decode cL_law 297 = .ok (.aload_n 0, 1) := by decide +kernel
theorem dL_law_298 : decode cL_law 298 = .ok (.iload_n 3, 1) := by decide +kernel
theorem dL_law_299 : decode cL_law 299 = .ok (.iconst 2, 1) := by decide +kernel
theorem dL_law_300 : decode cL_law 300 = .ok (.iadd, 1) := by decide +kernel
theorem dL_law_301 : decode cL_law 301 = .ok (.iaload, 1) := by decide +kernel
theorem dL_law_302 : decode cL_law 302 = .ok (.aload_n 0, 1) := by decide +kernel
theorem dL_law_303 : decode cL_law 303 = .ok (.iload_n 3, 1) := by decide +kernel
theorem dL_law_304 : decode cL_law 304 = .ok (.iconst 3, 1) := by decide +kernel
theorem dL_law_305 : decode cL_law 305 = .ok (.iadd, 1) := by decide +kernel
theorem dL_law_306 : decode cL_law 306 = .ok (.iaload, 1) := by decide +kernel
theorem dL_law_307 : decode cL_law 307 = .ok (.invokevirtual 45, 3) := by decide +kernel
theorem dL_law_310 : decode cL_law 310 = .ok (.if_icmp .eq 289, 3) := by decide +kernel
theorem dL_law_313 : decode cL_law 313 = .ok (.iconst 0, 1) := by decide +kernel
theorem dL_law_314 : decode cL_law 314 = .ok (.ireturn, 1) := by decide +kernel
theorem dL_law_315 : decode cL_law 315 = .ok (.aload_n 1, 1) := by decide +kernel
theorem dL_law_316 : decode cL_law 316 = .ok (.invokevirtual 46, 3) := by decide +kernel
theorem dL_law_319 : decode cL_law 319 = .ok (.aload_n 2, 1) := by decide +kernel
theorem dL_law_320 : decode cL_law 320 = .ok (.invokevirtual 50, 3) := by decide +kernel
theorem dL_law_323 : decode cL_law 323 = .ok (.if_icmp .eq 276, 3) := by decide +kernel
theorem dL_law_326 : decode cL_law 326 = .ok (.iconst 0, 1) := by decide +kernel
theorem dL_law_327 : decode cL_law 327 = .ok (.ireturn, 1) := by decide +kernel
theorem dL_law_328 : decode cL_law 328 = .ok (.aload_n 1, 1) := by decide +kernel
theorem dL_law_329 : decode cL_law 329 = .ok (.aload_n 0, 1) := by decide +kernel
theorem dL_law_330 : decode cL_law 330 = .ok (.iload_n 3, 1) := by decide +kernel
theorem dL_law_331 : decode cL_law 331 = .ok (.iconst 1, 1) := by decide +kernel
theorem dL_law_332 : decode cL_law 332 = .ok (.iadd, 1) := by decide +kernel
theorem dL_law_333 : decode cL_law 333 = .ok (.iaload, 1) := by decide +kernel
theorem dL_law_334 : decode cL_law 334 = .ok (.aload_n 0, 1) := by decide +kernel
theorem dL_law_335 : decode cL_law 335 = .ok (.iload_n 3, 1) := by decide +kernel
theorem dL_law_336 : decode cL_law 336 = .ok (.iconst 2, 1) := by decide +kernel
theorem dL_law_337 : decode cL_law 337 = .ok (.iadd, 1) := by decide +kernel
theorem dL_law_338 : decode cL_law 338 = .ok (.iaload, 1) := by decide +kernel
theorem dL_law_339 : decode cL_law 339 = .ok (.invokevirtual 51, 3) := by decide +kernel
theorem dL_law_342 : decode cL_law 342 = .ok (.aload_n 2, 1) := by decide +kernel
theorem dL_law_343 : decode cL_law 343 = .ok (.aload_n 0, 1) := by decide +kernel
theorem dL_law_344 : decode cL_law 344 = .ok (.iload_n 3, 1) := by decide +kernel
theorem dL_law_345 : decode cL_law 345 = .ok (.iconst 1, 1) := by decide +kernel
theorem dL_law_346 : decode cL_law 346 = .ok (.iadd, 1) := by decide +kernel
theorem dL_law_347 : decode cL_law 347 = .ok (.iaload, 1) := by decide +kernel
theorem dL_law_348 : decode cL_law 348 = .ok (.aload_n 0, 1) := by decide +kernel
theorem dL_law_349 : decode cL_law 349 = .ok (.iload_n 3, 1) := by decide +kernel
theorem dL_law_350 : decode cL_law 350 = .ok (.iconst 2, 1) := by decide +kernel
theorem dL_law_351 : decode cL_law 351 = .ok (.iadd, 1) := by decide +kernel
theorem dL_law_352 : decode cL_law 352 = .ok (.iaload, 1) := by decide +kernel
theorem dL_law_353 : decode cL_law 353 = .ok (.invokevirtual 54, 3) := by decide +kernel
theorem dL_law_356 : decode cL_law 356 = .ok (.if_icmp .eq 243, 3) := by decide +kernel
theorem dL_law_359 : decode cL_law 359 = .ok (.iconst 0, 1) := by decide +kernel
theorem dL_law_360 : decode cL_law 360 = .ok (.ireturn, 1) := by decide +kernel
theorem dL_law_361 : decode cL_law 361 = .ok (.aload_n 1, 1) := by decide +kernel
theorem dL_law_362 : decode cL_law 362 = .ok (.aload_n 0, 1) := by decide +kernel
theorem dL_law_363 : decode cL_law 363 = .ok (.iload_n 3, 1) := by decide +kernel
theorem dL_law_364 : decode cL_law 364 = .ok (.iconst 1, 1) := by decide +kernel
theorem dL_law_365 : decode cL_law 365 = .ok (.iadd, 1) := by decide +kernel
theorem dL_law_366 : decode cL_law 366 = .ok (.iaload, 1) := by decide +kernel
theorem dL_law_367 : decode cL_law 367 = .ok (.aload_n 0, 1) := by decide +kernel
theorem dL_law_368 : decode cL_law 368 = .ok (.iload_n 3, 1) := by decide +kernel
theorem dL_law_369 : decode cL_law 369 = .ok (.iconst 2, 1) := by decide +kernel
theorem dL_law_370 : decode cL_law 370 = .ok (.iadd, 1) := by decide +kernel
theorem dL_law_371 : decode cL_law 371 = .ok (.iaload, 1) := by decide +kernel
theorem dL_law_372 : decode cL_law 372 = .ok (.aload_n 0, 1) := by decide +kernel
theorem dL_law_373 : decode cL_law 373 = .ok (.iload_n 3, 1) := by decide +kernel
theorem dL_law_374 : decode cL_law 374 = .ok (.iconst 3, 1) := by decide +kernel
theorem dL_law_375 : decode cL_law 375 = .ok (.iadd, 1) := by decide +kernel
theorem dL_law_376 : decode cL_law 376 = .ok (.iaload, 1) := by decide +kernel
theorem dL_law_377 : decode cL_law 377 = .ok (.invokevirtual 55, 3) := by decide +kernel
theorem dL_law_380 : decode cL_law 380 = .ok (.aload_n 2, 1) := by decide +kernel
theorem dL_law_381 : decode cL_law 381 = .ok (.aload_n 0, 1) := by decide +kernel
theorem dL_law_382 : decode cL_law 382 = .ok (.iload_n 3, 1) := by decide +kernel
theorem dL_law_383 : decode cL_law 383 = .ok (.iconst 1, 1) := by decide +kernel
theorem dL_law_384 : decode cL_law 384 = .ok (.iadd, 1) := by decide +kernel
theorem dL_law_385 : decode cL_law 385 = .ok (.iaload, 1) := by decide +kernel
theorem dL_law_386 : decode cL_law 386 = .ok (.aload_n 0, 1) := by decide +kernel
theorem dL_law_387 : decode cL_law 387 = .ok (.iload_n 3, 1) := by decide +kernel
theorem dL_law_388 : decode cL_law 388 = .ok (.iconst 2, 1) := by decide +kernel
theorem dL_law_389 : decode cL_law 389 = .ok (.iadd, 1) := by decide +kernel
theorem dL_law_390 : decode cL_law 390 = .ok (.iaload, 1) := by decide +kernel
theorem dL_law_391 : decode cL_law 391 = .ok (.aload_n 0, 1) := by decide +kernel
theorem dL_law_392 : decode cL_law 392 = .ok (.iload_n 3, 1) := by decide +kernel
theorem dL_law_393 : decode cL_law 393 = .ok (.iconst 3, 1) := by decide +kernel
theorem dL_law_394 : decode cL_law 394 = .ok (.iadd, 1) := by decide +kernel
theorem dL_law_395 : decode cL_law 395 = .ok (.iaload, 1) := by decide +kernel
theorem dL_law_396 : decode cL_law 396 = .ok (.invokevirtual 58, 3) := by decide +kernel
theorem dL_law_399 : decode cL_law 399 = .ok (.if_icmp .eq 200, 3) := by decide +kernel
theorem dL_law_402 : decode cL_law 402 = .ok (.iconst 0, 1) := by decide +kernel
theorem dL_law_403 : decode cL_law 403 = .ok (.ireturn, 1) := by decide +kernel
theorem dL_law_404 : decode cL_law 404 = .ok (.aload_n 1, 1) := by decide +kernel
theorem dL_law_405 : decode cL_law 405 = .ok (.aload_n 0, 1) := by decide +kernel
theorem dL_law_406 : decode cL_law 406 = .ok (.iload_n 3, 1) := by decide +kernel
theorem dL_law_407 : decode cL_law 407 = .ok (.iconst 1, 1) := by decide +kernel
theorem dL_law_408 : decode cL_law 408 = .ok (.iadd, 1) := by decide +kernel
theorem dL_law_409 : decode cL_law 409 = .ok (.iaload, 1) := by decide +kernel
theorem dL_law_410 : decode cL_law 410 = .ok (.aload_n 0, 1) := by decide +kernel
theorem dL_law_411 : decode cL_law 411 = .ok (.iload_n 3, 1) := by decide +kernel
theorem dL_law_412 : decode cL_law 412 = .ok (.iconst 2, 1) := by decide +kernel
theorem dL_law_413 : decode cL_law 413 = .ok (.iadd, 1) := by decide +kernel
theorem dL_law_414 : decode cL_law 414 = .ok (.iaload, 1) := by decide +kernel
theorem dL_law_415 : decode cL_law 415 = .ok (.aload_n 0, 1) := by decide +kernel
theorem dL_law_416 : decode cL_law 416 = .ok (.iload_n 3, 1) := by decide +kernel
theorem dL_law_417 : decode cL_law 417 = .ok (.iconst 3, 1) := by decide +kernel
theorem dL_law_418 : decode cL_law 418 = .ok (.iadd, 1) := by decide +kernel
theorem dL_law_419 : decode cL_law 419 = .ok (.iaload, 1) := by decide +kernel
theorem dL_law_420 : decode cL_law 420 = .ok (.invokevirtual 59, 3) := by decide +kernel
theorem dL_law_423 : decode cL_law 423 = .ok (.aload_n 2, 1) := by decide +kernel
theorem dL_law_424 : decode cL_law 424 = .ok (.aload_n 0, 1) := by decide +kernel
theorem dL_law_425 : decode cL_law 425 = .ok (.iload_n 3, 1) := by decide +kernel
theorem dL_law_426 : decode cL_law 426 = .ok (.iconst 1, 1) := by decide +kernel
theorem dL_law_427 : decode cL_law 427 = .ok (.iadd, 1) := by decide +kernel
theorem dL_law_428 : decode cL_law 428 = .ok (.iaload, 1) := by decide +kernel
theorem dL_law_429 : decode cL_law 429 = .ok (.aload_n 0, 1) := by decide +kernel
theorem dL_law_430 : decode cL_law 430 = .ok (.iload_n 3, 1) := by decide +kernel
theorem dL_law_431 : decode cL_law 431 = .ok (.iconst 2, 1) := by decide +kernel
theorem dL_law_432 : decode cL_law 432 = .ok (.iadd, 1) := by decide +kernel
theorem dL_law_433 : decode cL_law 433 = .ok (.iaload, 1) := by decide +kernel
theorem dL_law_434 : decode cL_law 434 = .ok (.aload_n 0, 1) := by decide +kernel
theorem dL_law_435 : decode cL_law 435 = .ok (.iload_n 3, 1) := by decide +kernel
theorem dL_law_436 : decode cL_law 436 = .ok (.iconst 3, 1) := by decide +kernel
theorem dL_law_437 : decode cL_law 437 = .ok (.iadd, 1) := by decide +kernel
theorem dL_law_438 : decode cL_law 438 = .ok (.iaload, 1) := by decide +kernel
theorem dL_law_439 : decode cL_law 439 = .ok (.invokevirtual 62, 3) := by decide +kernel
theorem dL_law_442 : decode cL_law 442 = .ok (.if_icmp .eq 157, 3) := by decide +kernel
theorem dL_law_445 : decode cL_law 445 = .ok (.iconst 0, 1) := by decide +kernel
theorem dL_law_446 : decode cL_law 446 = .ok (.ireturn, 1) := by decide +kernel
theorem dL_law_447 : decode cL_law 447 = .ok (.aload_n 1, 1) := by decide +kernel
theorem dL_law_448 : decode cL_law 448 = .ok (.aload_n 0, 1) := by decide +kernel
theorem dL_law_449 : decode cL_law 449 = .ok (.iload_n 3, 1) := by decide +kernel
theorem dL_law_450 : decode cL_law 450 = .ok (.iconst 1, 1) := by decide +kernel
theorem dL_law_451 : decode cL_law 451 = .ok (.iadd, 1) := by decide +kernel
theorem dL_law_452 : decode cL_law 452 = .ok (.iaload, 1) := by decide +kernel
theorem dL_law_453 : decode cL_law 453 = .ok (.aload_n 0, 1) := by decide +kernel
theorem dL_law_454 : decode cL_law 454 = .ok (.iload_n 3, 1) := by decide +kernel
theorem dL_law_455 : decode cL_law 455 = .ok (.iconst 2, 1) := by decide +kernel
theorem dL_law_456 : decode cL_law 456 = .ok (.iadd, 1) := by decide +kernel
theorem dL_law_457 : decode cL_law 457 = .ok (.iaload, 1) := by decide +kernel
theorem dL_law_458 : decode cL_law 458 = .ok (.aload_n 0, 1) := by decide +kernel
theorem dL_law_459 : decode cL_law 459 = .ok (.iload_n 3, 1) := by decide +kernel
theorem dL_law_460 : decode cL_law 460 = .ok (.iconst 3, 1) := by decide +kernel
theorem dL_law_461 : decode cL_law 461 = .ok (.iadd, 1) := by decide +kernel
theorem dL_law_462 : decode cL_law 462 = .ok (.iaload, 1) := by decide +kernel
theorem dL_law_463 : decode cL_law 463 = .ok (.invokevirtual 63, 3) := by decide +kernel
theorem dL_law_466 : decode cL_law 466 = .ok (.aload_n 2, 1) := by decide +kernel
theorem dL_law_467 : decode cL_law 467 = .ok (.aload_n 0, 1) := by decide +kernel
theorem dL_law_468 : decode cL_law 468 = .ok (.iload_n 3, 1) := by decide +kernel
theorem dL_law_469 : decode cL_law 469 = .ok (.iconst 1, 1) := by decide +kernel
theorem dL_law_470 : decode cL_law 470 = .ok (.iadd, 1) := by decide +kernel
theorem dL_law_471 : decode cL_law 471 = .ok (.iaload, 1) := by decide +kernel
theorem dL_law_472 : decode cL_law 472 = .ok (.aload_n 0, 1) := by decide +kernel
theorem dL_law_473 : decode cL_law 473 = .ok (.iload_n 3, 1) := by decide +kernel
theorem dL_law_474 : decode cL_law 474 = .ok (.iconst 2, 1) := by decide +kernel
theorem dL_law_475 : decode cL_law 475 = .ok (.iadd, 1) := by decide +kernel
theorem dL_law_476 : decode cL_law 476 = .ok (.iaload, 1) := by decide +kernel
theorem dL_law_477 : decode cL_law 477 = .ok (.aload_n 0, 1) := by decide +kernel
theorem dL_law_478 : decode cL_law 478 = .ok (.iload_n 3, 1) := by decide +kernel
theorem dL_law_479 : decode cL_law 479 = .ok (.iconst 3, 1) := by decide +kernel
theorem dL_law_480 : decode cL_law 480 = .ok (.iadd, 1) := by decide +kernel
theorem dL_law_481 : decode cL_law 481 = .ok (.iaload, 1) := by decide +kernel
theorem dL_law_482 : decode cL_law 482 = .ok (.invokevirtual 66, 3) := by decide +kernel
theorem dL_law_485 : decode cL_law 485 = .ok (.if_icmp .eq 114, 3) := by decide +kernel
theorem dL_law_488 : decode cL_law 488 = .ok (.iconst 0, 1) := by decide +kernel
theorem dL_law_489 : decode cL_law 489 = .ok (.ireturn, 1) := by decide +kernel
theorem dL_law_490 : decode cL_law 490 = .ok (.aload_n 1, 1) := by decide +kernel
theorem dL_law_491 : decode cL_law 491 = .ok (.aload_n 0, 1) := by decide +kernel
theorem dL_law_492 : decode cL_law 492 = .ok (.iload_n 3, 1) := by decide +kernel
theorem dL_law_493 : decode cL_law 493 = .ok (.iconst 1, 1) := by decide +kernel
theorem dL_law_494 : decode cL_law 494 = .ok (.iadd, 1) := by decide +kernel
theorem dL_law_495 : decode cL_law 495 = .ok (.iaload, 1) := by decide +kernel
theorem dL_law_496 : decode cL_law 496 = .ok (.aload_n 0, 1) := by decide +kernel
theorem dL_law_497 : decode cL_law 497 = .ok (.iload_n 3, 1) := by decide +kernel
theorem dL_law_498 : decode cL_law 498 = .ok (.iconst 2, 1) := by decide +kernel
theorem dL_law_499 : decode cL_law 499 = .ok (.iadd, 1) := by decide +kernel
theorem dL_law_500 : decode cL_law 500 = .ok (.iaload, 1) := by decide +kernel
theorem dL_law_501 : decode cL_law 501 = .ok (.aload_n 0, 1) := by decide +kernel
theorem dL_law_502 : decode cL_law 502 = .ok (.iload_n 3, 1) := by decide +kernel
theorem dL_law_503 : decode cL_law 503 = .ok (.iconst 3, 1) := by decide +kernel
theorem dL_law_504 : decode cL_law 504 = .ok (.iadd, 1) := by decide +kernel
theorem dL_law_505 : decode cL_law 505 = .ok (.iaload, 1) := by decide +kernel
theorem dL_law_506 : decode cL_law 506 = .ok (.invokevirtual 67, 3) := by decide +kernel
theorem dL_law_509 : decode cL_law 509 = .ok (.aload_n 2, 1) := by decide +kernel
theorem dL_law_510 : decode cL_law 510 = .ok (.aload_n 0, 1) := by decide +kernel
theorem dL_law_511 : decode cL_law 511 = .ok (.iload_n 3, 1) := by decide +kernel
theorem dL_law_512 : decode cL_law 512 = .ok (.iconst 1, 1) := by decide +kernel
theorem dL_law_513 : decode cL_law 513 = .ok (.iadd, 1) := by decide +kernel
theorem dL_law_514 : decode cL_law 514 = .ok (.iaload, 1) := by decide +kernel
theorem dL_law_515 : decode cL_law 515 = .ok (.aload_n 0, 1) := by decide +kernel
theorem dL_law_516 : decode cL_law 516 = .ok (.iload_n 3, 1) := by decide +kernel
theorem dL_law_517 : decode cL_law 517 = .ok (.iconst 2, 1) := by decide +kernel
theorem dL_law_518 : decode cL_law 518 = .ok (.iadd, 1) := by decide +kernel
theorem dL_law_519 : decode cL_law 519 = .ok (.iaload, 1) := by decide +kernel
theorem dL_law_520 : decode cL_law 520 = .ok (.aload_n 0, 1) := by decide +kernel
theorem dL_law_521 : decode cL_law 521 = .ok (.iload_n 3, 1) := by decide +kernel
theorem dL_law_522 : decode cL_law 522 = .ok (.iconst 3, 1) := by decide +kernel
theorem dL_law_523 : decode cL_law 523 = .ok (.iadd, 1) := by decide +kernel
theorem dL_law_524 : decode cL_law 524 = .ok (.iaload, 1) := by decide +kernel
theorem dL_law_525 : decode cL_law 525 = .ok (.invokevirtual 70, 3) := by decide +kernel
theorem dL_law_528 : decode cL_law 528 = .ok (.if_icmp .eq 71, 3) := by decide +kernel
theorem dL_law_531 : decode cL_law 531 = .ok (.iconst 0, 1) := by decide +kernel
theorem dL_law_532 : decode cL_law 532 = .ok (.ireturn, 1) := by decide +kernel
theorem dL_law_533 : decode cL_law 533 = .ok (.aload_n 1, 1) := by decide +kernel
theorem dL_law_534 : decode cL_law 534 = .ok (.aload_n 0, 1) := by decide +kernel
theorem dL_law_535 : decode cL_law 535 = .ok (.iload_n 3, 1) := by decide +kernel
theorem dL_law_536 : decode cL_law 536 = .ok (.iconst 1, 1) := by decide +kernel
theorem dL_law_537 : decode cL_law 537 = .ok (.iadd, 1) := by decide +kernel
theorem dL_law_538 : decode cL_law 538 = .ok (.iaload, 1) := by decide +kernel
theorem dL_law_539 : decode cL_law 539 = .ok (.aload_n 0, 1) := by decide +kernel
theorem dL_law_540 : decode cL_law 540 = .ok (.iload_n 3, 1) := by decide +kernel
theorem dL_law_541 : decode cL_law 541 = .ok (.iconst 2, 1) := by decide +kernel
theorem dL_law_542 : decode cL_law 542 = .ok (.iadd, 1) := by decide +kernel
theorem dL_law_543 : decode cL_law 543 = .ok (.iaload, 1) := by decide +kernel
theorem dL_law_544 : decode cL_law 544 = .ok (.aload_n 0, 1) := by decide +kernel
theorem dL_law_545 : decode cL_law 545 = .ok (.iload_n 3, 1) := by decide +kernel
theorem dL_law_546 : decode cL_law 546 = .ok (.iconst 3, 1) := by decide +kernel
theorem dL_law_547 : decode cL_law 547 = .ok (.iadd, 1) := by decide +kernel
theorem dL_law_548 : decode cL_law 548 = .ok (.iaload, 1) := by decide +kernel
theorem dL_law_549 : decode cL_law 549 = .ok (.invokevirtual 71, 3) := by decide +kernel
theorem dL_law_552 : decode cL_law 552 = .ok (.aload_n 2, 1) := by decide +kernel
theorem dL_law_553 : decode cL_law 553 = .ok (.aload_n 0, 1) := by decide +kernel
theorem dL_law_554 : decode cL_law 554 = .ok (.iload_n 3, 1) := by decide +kernel
theorem dL_law_555 : decode cL_law 555 = .ok (.iconst 1, 1) := by decide +kernel
theorem dL_law_556 : decode cL_law 556 = .ok (.iadd, 1) := by decide +kernel
theorem dL_law_557 : decode cL_law 557 = .ok (.iaload, 1) := by decide +kernel
theorem dL_law_558 : decode cL_law 558 = .ok (.aload_n 0, 1) := by decide +kernel
theorem dL_law_559 : decode cL_law 559 = .ok (.iload_n 3, 1) := by decide +kernel
theorem dL_law_560 : decode cL_law 560 = .ok (.iconst 2, 1) := by decide +kernel
theorem dL_law_561 : decode cL_law 561 = .ok (.iadd, 1) := by decide +kernel
theorem dL_law_562 : decode cL_law 562 = .ok (.iaload, 1) := by decide +kernel
theorem dL_law_563 : decode cL_law 563 = .ok (.aload_n 0, 1) := by decide +kernel
theorem dL_law_564 : decode cL_law 564 = .ok (.iload_n 3, 1) := by decide +kernel
theorem dL_law_565 : decode cL_law 565 = .ok (.iconst 3, 1) := by decide +kernel
theorem dL_law_566 : decode cL_law 566 = .ok (.iadd, 1) := by decide +kernel
theorem dL_law_567 : decode cL_law 567 = .ok (.iaload, 1) := by decide +kernel
theorem dL_law_568 : decode cL_law 568 = .ok (.invokevirtual 74, 3) := by decide +kernel
theorem dL_law_571 : decode cL_law 571 = .ok (.if_icmp .eq 28, 3) := by decide +kernel
theorem dL_law_574 : decode cL_law 574 = .ok (.iconst 0, 1) := by decide +kernel
theorem dL_law_575 : decode cL_law 575 = .ok (.ireturn, 1) := by decide +kernel
theorem dL_law_576 : decode cL_law 576 = .ok (.aload_n 1, 1) := by decide +kernel
theorem dL_law_577 : decode cL_law 577 = .ok (.aload_n 0, 1) := by decide +kernel
theorem dL_law_578 : decode cL_law 578 = .ok (.iload_n 3, 1) := by decide +kernel
theorem dL_law_579 : decode cL_law 579 = .ok (.iconst 1, 1) := by decide +kernel
theorem dL_law_580 : decode cL_law 580 = .ok (.iadd, 1) := by decide +kernel
theorem dL_law_581 : decode cL_law 581 = .ok (.iaload, 1) := by decide +kernel
theorem dL_law_582 : decode cL_law 582 = .ok (.invokevirtual 75, 3) := by decide +kernel
theorem dL_law_585 : decode cL_law 585 = .ok (.aload_n 2, 1) := by decide +kernel
theorem dL_law_586 : decode cL_law 586 = .ok (.aload_n 0, 1) := by decide +kernel
theorem dL_law_587 : decode cL_law 587 = .ok (.iload_n 3, 1) := by decide +kernel
theorem dL_law_588 : decode cL_law 588 = .ok (.iconst 1, 1) := by decide +kernel
theorem dL_law_589 : decode cL_law 589 = .ok (.iadd, 1) := by decide +kernel
theorem dL_law_590 : decode cL_law 590 = .ok (.iaload, 1) := by decide +kernel
theorem dL_law_591 : decode cL_law 591 = .ok (.invokevirtual 78, 3) := by decide +kernel
theorem dL_law_594 : decode cL_law 594 = .ok (.if_icmp .eq 5, 3) := by decide +kernel
theorem dL_law_597 : decode cL_law 597 = .ok (.iconst 0, 1) := by decide +kernel
theorem dL_law_598 : decode cL_law 598 = .ok (.ireturn, 1) := by decide +kernel
theorem dL_law_599 : decode cL_law 599 = .ok (.iinc 3 6, 3) := by decide +kernel
theorem dL_law_602 : decode cL_law 602 = .ok (.goto (-564), 3) := by decide +kernel
theorem dL_law_605 : decode cL_law 605 = .ok (.iconst 1, 1) := by decide +kernel
theorem dL_law_606 : decode cL_law 606 = .ok (.ireturn, 1) := by decide +kernel
