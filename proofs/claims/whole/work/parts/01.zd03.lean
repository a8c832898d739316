theorem dX8_world_60 : decode cX8_world 60 = .ok (.getfield 244, 3) := by decide +kernel
theorem dX8_world_63 : decode cX8_world 63 = .ok (.ireturn, 1) := by decide +kernel
theorem dX8_world_64 : decode cX8_world 64 = .ok (.aload_n 0, 1) := by decide +kernel
theorem dX8_world_65 : decode cX8_world 65 = .ok (.getfield 247, 3) := by decide +kernel
theorem dX8_world_68 : decode cX8_world 68 = .ok (.ireturn, 1) := by decide +kernel
theorem dX8_world_69 : decode cX8_world 69 = .ok (.aload_n 0, 1) := by decide +kernel
theorem dX8_world_70 : decode cX8_world 70 = .ok (.getfield 250, 3) := by decide +kernel
theorem dX8_world_73 : decode cX8_world 73 = .ok (.ireturn, 1) := by decide +kernel
theorem dX8_world_74 : decode cX8_world 74 = .ok (.aload_n 0, 1) := by decide +kernel
theorem dX8_world_75 : decode cX8_world 75 = .ok (.getfield 253, 3) := by decide +kernel
theorem dX8_world_78 : decode cX8_world 78 = .ok (.ireturn, 1) := by decide +kernel
theorem dX8_world_79 : decode cX8_world 79 = .ok (.iconst (-1), 1) := by decide +kernel
theorem dX8_world_80 : decode cX8_world 80 = .ok (.ireturn, 1) := by decide +kernel
theorem dX8_isPlace_0 : decode cX8_isPlace 0 = .ok (.iload_n 1, 1) := by decide +kernel
theorem dX8_isPlace_1 : decode cX8_isPlace 1 = .ok (.ifCond .lt 24, 3) := by decide +kernel
theorem dX8_isPlace_4 : decode cX8_isPlace 4 = .ok (.iload_n 1, 1) := by decide +kernel
theorem dX8_isPlace_5 : decode cX8_isPlace 5 = .ok (.iconst 1, 1) := by decide +kernel
theorem dX8_isPlace_6 : decode cX8_isPlace 6 = .ok (.if_icmp .gt 19, 3) := by decide +kernel
theorem dX8_isPlace_9 : decode cX8_isPlace 9 = .ok (.iload_n 2, 1) := by decide +kernel
theorem dX8_isPlace_10 : decode cX8_isPlace 10 = .ok (.ifCond .lt 15, 3) := by decide +kernel
theorem dX8_isPlace_13 : decode cX8_isPlace 13 = .ok (.iload_n 2, 1) := by decide +kernel
theorem dX8_isPlace_14 : decode cX8_isPlace 14 = .ok (.aload_n 0, 1) := by decide +kernel
theorem dX8_isPlace_15 : decode cX8_isPlace 15 = .ok (.getfield 16, 3) := by decide +kernel
theorem dX8_isPlace_18 : decode cX8_isPlace 18 = .ok (.if_icmp .ge 7, 3) := by decide +kernel
theorem dX8_isPlace_21 : decode cX8_isPlace 21 = .ok (.iconst 1, 1) := by decide +kernel
theorem dX8_isPlace_22 : decode cX8_isPlace 22 = .ok (.goto 4, 3) := by decide +kernel
theorem dX8_isPlace_25 : decode cX8_isPlace 25 = .ok (.iconst 0, 1) := by decide +kernel
theorem dX8_isPlace_26 : decode cX8_isPlace 26 = .ok (.ireturn, 1) := by decide +kernel
theorem dX8_placeOf_0 : decode cX8_placeOf 0 = .ok (.iload_n 1, 1) := by decide +kernel
theorem dX8_placeOf_1 : decode cX8_placeOf 1 = .ok (.aload_n 0, 1) := by decide +kernel
theorem dX8_placeOf_2 : decode cX8_placeOf 2 = .ok (.getfield 16, 3) := by decide +kernel
theorem dX8_placeOf_5 : decode cX8_placeOf 5 = .ok (.imul, 1) := by decide +kernel
theorem dX8_placeOf_6 : decode cX8_placeOf 6 = .ok (.iload_n 2, 1) := by decide +kernel
theorem dX8_placeOf_7 : decode cX8_placeOf 7 = .ok (.iadd, 1) := by decide +kernel
theorem dX8_placeOf_8 : decode cX8_placeOf 8 = .ok (.ireturn, 1) := by decide +kernel
theorem dX8_fillBlock_0 : decode cX8_fillBlock 0 = .ok (.aload_n 2, 1) := by decide +kernel
theorem dX8_fillBlock_1 : decode cX8_fillBlock 1 = .ok (.getfield 108, 3) := by decide +kernel
theorem dX8_fillBlock_4 : decode cX8_fillBlock 4 = .ok (.astore 4, 2) := by decide +kernel
theorem dX8_fillBlock_6 : decode cX8_fillBlock 6 = .ok (.aload 4, 2) := by decide +kernel
theorem dX8_fillBlock_8 : decode cX8_fillBlock 8 = .ok (.iconst 0, 1) := by decide +kernel
theorem dX8_fillBlock_9 : decode cX8_fillBlock 9 = .ok (.putfield 256, 3) := by decide +kernel
theorem dX8_fillBlock_12 : decode cX8_fillBlock 12 = .ok (.iconst 0, 1) := by decide +kernel
theorem dX8_fillBlock_13 : decode cX8_fillBlock 13 = .ok (.istore 5, 2) := by decide +kernel
theorem dX8_fillBlock_15 : decode cX8_fillBlock 15 = .ok (.iload 5, 2) := by decide +kernel
theorem dX8_fillBlock_17 : decode cX8_fillBlock 17 = .ok (.iconst 2, 1) := by decide +kernel
theorem dX8_fillBlock_18 : decode cX8_fillBlock 18 = .ok (.aload_n 0, 1) := by decide +kernel
theorem dX8_fillBlock_19 : decode cX8_fillBlock 19 = .ok (.getfield 16, 3) := by decide +kernel
theorem dX8_fillBlock_22 : decode cX8_fillBlock 22 = .ok (.imul, 1) := by decide +kernel
theorem dX8_fillBlock_23 : decode cX8_fillBlock 23 = .ok (.if_icmp .ge 143, 3) := by decide +kernel
theorem dX8_fillBlock_26 : decode cX8_fillBlock 26 = .ok (.iload 5, 2) := by decide +kernel
theorem dX8_fillBlock_28 : decode cX8_fillBlock 28 = .ok (.aload_n 0, 1) := by decide +kernel
theorem dX8_fillBlock_29 : decode cX8_fillBlock 29 = .ok (.getfield 16, 3) := by decide +kernel
theorem dX8_fillBlock_32 : decode cX8_fillBlock 32 = .ok (.if_icmp .ge 7, 3) := by decide +kernel
theorem dX8_fillBlock_35 : decode cX8_fillBlock 35 = .ok (.iconst 1, 1) := by decide +kernel
theorem dX8_fillBlock_36 : decode cX8_fillBlock 36 = .ok (.goto 4, 3) := by decide +kernel
theorem dX8_fillBlock_39 : decode cX8_fillBlock 39 = .ok (.iconst 0, 1) := by decide +kernel
theorem dX8_fillBlock_40 : decode cX8_fillBlock 40 = .ok (.istore 6, 2) := by decide +kernel
theorem dX8_fillBlock_42 : decode cX8_fillBlock 42 = .ok (.iload 6, 2) := by decide +kernel
theorem dX8_fillBlock_44 : decode cX8_fillBlock 44 = .ok (.ifCond .eq 8, 3) := by decide +kernel
theorem dX8_fillBlock_47 : decode cX8_fillBlock 47 = .ok (.iload 5, 2) := by decide +kernel
theorem dX8_fillBlock_49 : decode cX8_fillBlock 49 = .ok (.goto 10, 3) := by decide +kernel
theorem dX8_fillBlock_52 : decode cX8_fillBlock 52 = .ok (.iload 5, 2) := by decide +kernel
theorem dX8_fillBlock_54 : decode cX8_fillBlock 54 = .ok (.aload_n 0, 1) := by decide +kernel
theorem dX8_fillBlock_55 : decode cX8_fillBlock 55 = .ok (.getfield 16, 3) := by decide +kernel
theorem dX8_fillBlock_58 : decode cX8_fillBlock 58 = .ok (.isub, 1) := by decide +kernel
theorem dX8_fillBlock_59 : decode cX8_fillBlock 59 = .ok (.istore 7, 2) := by decide +kernel
theorem dX8_fillBlock_61 : decode cX8_fillBlock 61 = .ok (.aload_n 0, 1) := by decide +kernel
theorem dX8_fillBlock_62 : decode cX8_fillBlock 62 = .ok (.getfield 36, 3) := by decide +kernel
theorem dX8_fillBlock_65 : decode cX8_fillBlock 65 = .ok (.aload_n 0, 1) := by decide +kernel
theorem dX8_fillBlock_66 : decode cX8_fillBlock 66 = .ok (.iload_n 1, 1) := by decide +kernel
theorem dX8_fillBlock_67 : decode cX8_fillBlock 67 = .ok (.iload 7, 2) := by decide +kernel
theorem dX8_fillBlock_69 : decode cX8_fillBlock 69 = .ok (.invokevirtual 67, 3) := by decide +kernel
theorem dX8_fillBlock_72 : decode cX8_fillBlock 72 = .ok (.aaload, 1) := by decide +kernel
theorem dX8_fillBlock_73 : decode cX8_fillBlock 73 = .ok (.astore 8, 2) := by decide +kernel
theorem dX8_fillBlock_75 : decode cX8_fillBlock 75 = .ok (.iconst 1, 1) := by decide +kernel
theorem dX8_fillBlock_76 : decode cX8_fillBlock 76 = .ok (.istore 9, 2) := by decide +kernel
theorem dX8_fillBlock_78 : decode cX8_fillBlock 78 = .ok (.iconst 0, 1) := by decide +kernel
theorem dX8_fillBlock_79 : decode cX8_fillBlock 79 = .ok (.istore 10, 2) := by decide +kernel
theorem dX8_fillBlock_81 : decode cX8_fillBlock 81 = .ok (.iload 10, 2) := by decide +kernel
theorem dX8_fillBlock_83 : decode cX8_fillBlock 83 = .ok (.sipush 250, 3) := by decide +kernel
theorem dX8_fillBlock_86 : decode cX8_fillBlock 86 = .ok (.if_icmp .ge 74, 3) := by decide +kernel
theorem dX8_fillBlock_89 : decode cX8_fillBlock 89 = .ok (.iload 9, 2) := by decide +kernel
theorem dX8_fillBlock_91 : decode cX8_fillBlock 91 = .ok (.ifCond .eq 69, 3) := by decide +kernel
theorem dX8_fillBlock_94 : decode cX8_fillBlock 94 = .ok (.iload_n 3, 1) := by decide +kernel
theorem dX8_fillBlock_95 : decode cX8_fillBlock 95 = .ok (.aload 4, 2) := by decide +kernel
theorem dX8_fillBlock_97 : decode cX8_fillBlock 97 = .ok (.getfield 256, 3) := by decide +kernel
theorem dX8_fillBlock_100 : decode cX8_fillBlock 100 = .ok (.isub, 1) := by decide +kernel
theorem dX8_fillBlock_101 : decode cX8_fillBlock 101 = .ok (.istore 11, 2) := by decide +kernel
theorem dX8_fillBlock_103 : decode cX8_fillBlock 103 = .ok (.iload 6, 2) := by decide +kernel
theorem dX8_fillBlock_105 : decode cX8_fillBlock 105 = .ok (.ifCond .eq 16, 3) := by decide +kernel
theorem dX8_fillBlock_108 : decode cX8_fillBlock 108 = .ok (.iload 11, 2) := by decide +kernel
theorem dX8_fillBlock_110 : decode cX8_fillBlock 110 = .ok (.aload 8, 2) := by decide +kernel
theorem dX8_fillBlock_112 : decode cX8_fillBlock 112 = .ok (.getfield 170, 3) := by decide +kernel
theorem dX8_fillBlock_115 : decode cX8_fillBlock 115 = .ok (.invokestatic 257, 3) := by decide +kernel
theorem dX8_fillBlock_118 : decode cX8_fillBlock 118 = .ok (.goto 5, 3) := by decide +kernel
theorem dX8_fillBlock_121 : decode cX8_fillBlock 121 = .ok (.iload 11, 2) := by decide +kernel
theorem dX8_fillBlock_123 : decode cX8_fillBlock 123 = .ok (.iconst 2, 1) := by decide +kernel
theorem dX8_fillBlock_124 : decode cX8_fillBlock 124 = .ok (.isub, 1) := by decide +kernel
theorem dX8_fillBlock_125 : decode cX8_fillBlock 125 = .ok (.istore 12, 2) := by decide +kernel
theorem dX8_fillBlock_127 : decode cX8_fillBlock 127 = .ok (.iload 12, 2) := by decide +kernel
theorem dX8_fillBlock_129 : decode cX8_fillBlock 129 = .ok (.iconst 1, 1) := by decide +kernel
theorem dX8_fillBlock_130 : decode cX8_fillBlock 130 = .ok (.if_icmp .lt 21, 3) := by decide +kernel
theorem dX8_fillBlock_133 : decode cX8_fillBlock 133 = .ok (.aload_n 0, 1) := by decide +kernel
theorem dX8_fillBlock_134 : decode cX8_fillBlock 134 = .ok (.iload_n 1, 1) := by decide +kernel
theorem dX8_fillBlock_135 : decode cX8_fillBlock 135 = .ok (.iload 7, 2) := by decide +kernel
theorem dX8_fillBlock_137 : decode cX8_fillBlock 137 = .ok (.iload 12, 2) := by decide +kernel
theorem dX8_fillBlock_139 : decode cX8_fillBlock 139 = .ok (.aload 4, 2) := by decide +kernel
theorem dX8_fillBlock_141 : decode cX8_fillBlock 141 = .ok (.invokevirtual 262, 3) := by decide +kernel
theorem dX8_fillBlock_144 : decode cX8_fillBlock 144 = .ok (.ifCond .eq 7, 3) := by decide +kernel
theorem dX8_fillBlock_147 : decode cX8_fillBlock 147 = .ok (.iconst 1, 1) := by decide +kernel
theorem dX8_fillBlock_148 : decode cX8_fillBlock 148 = .ok (.goto 4, 3) := by decide +kernel
theorem dX8_fillBlock_151 : decode cX8_fillBlock 151 = .ok (.iconst 0, 1) := by decide +kernel
theorem dX8_fillBlock_152 : decode cX8_fillBlock 152 = .ok (.istore 9, 2) := by decide +kernel
theorem dX8_fillBlock_154 : decode cX8_fillBlock 154 = .ok (.iinc 10 1, 3) := by decide +kernel
theorem dX8_fillBlock_157 : decode cX8_fillBlock 157 = .ok (.goto (-76), 3) := by decide +kernel
theorem dX8_fillBlock_160 : decode cX8_fillBlock 160 = .ok (.iinc 5 1, 3) := by decide +kernel
theorem dX8_fillBlock_163 : decode cX8_fillBlock 163 = .ok (.goto (-148), 3) := by decide +kernel
theorem dX8_fillBlock_166 : decode cX8_fillBlock 166 = .ok (.aload 4, 2) := by decide +kernel
theorem dX8_fillBlock_168 : decode cX8_fillBlock 168 = .ok (.getfield 256, 3) := by decide +kernel
theorem dX8_fillBlock_171 : decode cX8_fillBlock 171 = .ok (.ifCond .le 14, 3) := by decide +kernel
theorem dX8_fillBlock_174 : decode cX8_fillBlock 174 = .ok (.aload 4, 2) := by decide +kernel
theorem dX8_fillBlock_176 : decode cX8_fillBlock 176 = .ok (.iload_n 3, 1) := by decide +kernel
theorem dX8_fillBlock_177 : decode cX8_fillBlock 177 = .ok (.invokestatic 266, 3) := by decide +kernel
theorem dX8_fillBlock_180 : decode cX8_fillBlock 180 = .ok (.aload_n 2, 1) := by decide +kernel
theorem dX8_fillBlock_181 : decode cX8_fillBlock 181 = .ok (.iload_n 3, 1) := by decide +kernel
theorem dX8_fillBlock_182 : decode cX8_fillBlock 182 = .ok (.putfield 101, 3) := by decide +kernel
theorem dX8_fillBlock_185 : decode cX8_fillBlock 185 = .ok (.return_, 1) := by decide +kernel
theorem dX8_fillUp_0 : decode cX8_fillUp 0 = .ok (.aload_n 0, 1) := by decide +kernel
theorem dX8_fillUp_1 : decode cX8_fillUp 1 = .ok (.getfield 256, 3) := by decide +kernel
theorem dX8_fillUp_4 : decode cX8_fillUp 4 = .ok (.iload_n 1, 1) := by decide +kernel
theorem dX8_fillUp_5 : decode cX8_fillUp 5 = .ok (.if_icmp .ge 10, 3) := by decide +kernel
theorem dX8_fillUp_8 : decode cX8_fillUp 8 = .ok (.aload_n 0, 1) := by decide +kernel
theorem dX8_fillUp_9 : decode cX8_fillUp 9 = .ok (.sipush 255, 3) := by decide +kernel
theorem dX8_fillUp_12 : decode cX8_fillUp 12 = .ok (.invokevirtual 270, 3) := by decide +kernel
theorem dX8_fillUp_15 : decode cX8_fillUp 15 = .ok (.aload_n 0, 1) := by decide +kernel
theorem dX8_fillUp_16 : decode cX8_fillUp 16 = .ok (.getfield 256, 3) := by decide +kernel
theorem dX8_fillUp_19 : decode cX8_fillUp 19 = .ok (.istore_n 2, 1) := by decide +kernel
theorem dX8_fillUp_20 : decode cX8_fillUp 20 = .ok (.iload_n 2, 1) := by decide +kernel
theorem dX8_fillUp_21 : decode cX8_fillUp 21 = .ok (.iload_n 1, 1) := by decide +kernel
theorem dX8_fillUp_22 : decode cX8_fillUp 22 = .ok (.if_icmp .ge 14, 3) := by decide +kernel
theorem dX8_fillUp_25 : decode cX8_fillUp 25 = .ok (.aload_n 0, 1) := by decide +kernel
theorem dX8_fillUp_26 : decode cX8_fillUp 26 = .ok (.iconst 0, 1) := by decide +kernel
theorem dX8_fillUp_27 : decode cX8_fillUp 27 = .ok (.invokevirtual 270, 3) := by decide +kernel
theorem dX8_fillUp_30 : decode cX8_fillUp 30 = .ok (.iinc 2 1, 3) := by decide +kernel
theorem dX8_fillUp_33 : decode cX8_fillUp 33 = .ok (.goto (-13), 3) := by decide +kernel
theorem dX8_fillUp_36 : decode cX8_fillUp 36 = .ok (.return_, 1) := by decide +kernel
theorem dX8_makePart_0 : decode cX8_makePart 0 = .ok (.aload_n 0, 1) := by decide +kernel
theorem dX8_makePart_1 : decode cX8_makePart 1 = .ok (.getfield 36, 3) := by decide +kernel
theorem dX8_makePart_4 : decode cX8_makePart 4 = .ok (.aload_n 0, 1) := by decide +kernel
theorem dX8_makePart_5 : decode cX8_makePart 5 = .ok (.iload_n 1, 1) := by decide +kernel
theorem dX8_makePart_6 : decode cX8_makePart 6 = .ok (.iload_n 2, 1) := by decide +kernel
theorem dX8_makePart_7 : decode cX8_makePart 7 = .ok (.invokevirtual 67, 3) := by decide +kernel
theorem dX8_makePart_10 : decode cX8_makePart 10 = .ok (.aaload, 1) := by decide +kernel
theorem dX8_makePart_11 : decode cX8_makePart 11 = .ok (.astore 5, 2) := by decide +kernel
theorem dX8_makePart_13 : decode cX8_makePart 13 = .ok (.aload_n 0, 1) := by decide +kernel
theorem dX8_makePart_14 : decode cX8_makePart 14 = .ok (.getfield 42, 3) := by decide +kernel
theorem dX8_makePart_17 : decode cX8_makePart 17 = .ok (.aload_n 0, 1) := by decide +kernel
theorem dX8_makePart_18 : decode cX8_makePart 18 = .ok (.iload_n 1, 1) := by decide +kernel
theorem dX8_makePart_19 : decode cX8_makePart 19 = .ok (.iload_n 2, 1) := by decide +kernel
theorem dX8_makePart_20 : decode cX8_makePart 20 = .ok (.invokevirtual 67, 3) := by decide +kernel
theorem dX8_makePart_23 : decode cX8_makePart 23 = .ok (.aaload, 1) := by decide +kernel
theorem dX8_makePart_24 : decode cX8_makePart 24 = .ok (.astore 6, 2) := by decide +kernel
theorem dX8_makePart_26 : decode cX8_makePart 26 = .ok (.aload 4, 2) := by decide +kernel
theorem dX8_makePart_28 : decode cX8_makePart 28 = .ok (.getfield 256, 3) := by decide +kernel
theorem dX8_makePart_31 : decode cX8_makePart 31 = .ok (.istore 7, 2) := by decide +kernel
theorem dX8_makePart_33 : decode cX8_makePart 33 = .ok (.aload 4, 2) := by decide +kernel
theorem dX8_makePart_35 : decode cX8_makePart 35 = .ok (.iload_n 2, 1) := by decide +kernel
theorem dX8_makePart_36 : decode cX8_makePart 36 = .ok (.invokevirtual 270, 3) := by decide +kernel
theorem dX8_makePart_39 : decode cX8_makePart 39 = .ok (.aload 4, 2) := by decide +kernel
theorem dX8_makePart_41 : decode cX8_makePart 41 = .ok (.iconst 0, 1) := by decide +kernel
theorem dX8_makePart_42 : decode cX8_makePart 42 = .ok (.invokevirtual 270, 3) := by decide +kernel
theorem dX8_makePart_45 : decode cX8_makePart 45 = .ok (.aload 6, 2) := by decide +kernel
theorem dX8_makePart_47 : decode cX8_makePart 47 = .ok (.getfield 201, 3) := by decide +kernel
theorem dX8_makePart_50 : decode cX8_makePart 50 = .ok (.ifCond .eq 27, 3) := by decide +kernel
theorem dX8_makePart_53 : decode cX8_makePart 53 = .ok (.aload 6, 2) := by decide +kernel
theorem dX8_makePart_55 : decode cX8_makePart 55 = .ok (.getfield 198, 3) := by decide +kernel
theorem dX8_makePart_58 : decode cX8_makePart 58 = .ok (.ifCond .ne 19, 3) := by decide +kernel
theorem dX8_makePart_61 : decode cX8_makePart 61 = .ok (.iload_n 3, 1) := by decide +kernel
theorem dX8_makePart_62 : decode cX8_makePart 62 = .ok (.iconst 2, 1) := by decide +kernel
theorem dX8_makePart_63 : decode cX8_makePart 63 = .ok (.if_icmp .lt 14, 3) := by decide +kernel
theorem dX8_makePart_66 : decode cX8_makePart 66 = .ok (.aload 6, 2) := by decide +kernel
theorem dX8_makePart_68 : decode cX8_makePart 68 = .ok (.aload 4, 2) := by decide +kernel
theorem dX8_makePart_70 : decode cX8_makePart 70 = .ok (.iload_n 3, 1) := by decide +kernel
theorem dX8_makePart_71 : decode cX8_makePart 71 = .ok (.invokevirtual 273, 3) := by decide +kernel
theorem dX8_makePart_74 : decode cX8_makePart 74 = .ok (.goto 50, 3) := by decide +kernel
theorem dX8_makePart_77 : decode cX8_makePart 77 = .ok (.aload 5, 2) := by decide +kernel
theorem dX8_makePart_79 : decode cX8_makePart 79 = .ok (.getfield 166, 3) := by decide +kernel
theorem dX8_makePart_82 : decode cX8_makePart 82 = .ok (.ifCond .ne 22, 3) := by decide +kernel
theorem dX8_makePart_85 : decode cX8_makePart 85 = .ok (.aload 5, 2) := by decide +kernel
theorem dX8_makePart_87 : decode cX8_makePart 87 = .ok (.getfield 160, 3) := by decide +kernel
theorem dX8_makePart_90 : decode cX8_makePart 90 = .ok (.ifCond .le 14, 3) := by decide +kernel
theorem dX8_makePart_93 : decode cX8_makePart 93 = .ok (.aload 5, 2) := by decide +kernel
theorem dX8_makePart_95 : decode cX8_makePart 95 = .ok (.aload 4, 2) := by decide +kernel
theorem dX8_makePart_97 : decode cX8_makePart 97 = .ok (.iload_n 3, 1) := by decide +kernel
theorem dX8_makePart_98 : decode cX8_makePart 98 = .ok (.invokevirtual 276, 3) := by decide +kernel
theorem dX8_makePart_101 : decode cX8_makePart 101 = .ok (.goto 23, 3) := by decide +kernel
theorem dX8_makePart_104 : decode cX8_makePart 104 = .ok (.aload 5, 2) := by decide +kernel
theorem dX8_makePart_106 : decode cX8_makePart 106 = .ok (.getfield 166, 3) := by decide +kernel
theorem dX8_makePart_109 : decode cX8_makePart 109 = .ok (.ifCond .ne 15, 3) := by decide +kernel
theorem dX8_makePart_112 : decode cX8_makePart 112 = .ok (.aload 5, 2) := by decide +kernel
theorem dX8_makePart_114 : decode cX8_makePart 114 = .ok (.aload 4, 2) := by decide +kernel
theorem dX8_makePart_116 : decode cX8_makePart 116 = .ok (.iload_n 3, 1) := by decide +kernel
theorem dX8_makePart_117 : decode cX8_makePart 117 = .ok (.aload_n 0, 1) := by decide +kernel
theorem dX8_makePart_118 : decode cX8_makePart 118 = .ok (.getfield 26, 3) := by decide +kernel
theorem dX8_makePart_121 : decode cX8_makePart 121 = .ok (.invokevirtual 279, 3) := by decide +kernel
theorem dX8_makePart_124 : decode cX8_makePart 124 = .ok (.aload 4, 2) := by decide +kernel
theorem dX8_makePart_126 : decode cX8_makePart 126 = .ok (.getfield 256, 3) := by decide +kernel
theorem dX8_makePart_129 : decode cX8_makePart 129 = .ok (.iload 7, 2) := by decide +kernel
theorem dX8_makePart_131 : decode cX8_makePart 131 = .ok (.isub, 1) := by decide +kernel
theorem dX8_makePart_132 : decode cX8_makePart 132 = .ok (.iconst 2, 1) := by decide +kernel
theorem dX8_makePart_133 : decode cX8_makePart 133 = .ok (.isub, 1) := by decide +kernel
theorem dX8_makePart_134 : decode cX8_makePart 134 = .ok (.istore 8, 2) := by decide +kernel
theorem dX8_makePart_136 : decode cX8_makePart 136 = .ok (.iload 8, 2) := by decide +kernel
theorem dX8_makePart_138 : decode cX8_makePart 138 = .ok (.ifCond .ne 12, 3) := by decide +kernel
theorem dX8_makePart_141 : decode cX8_makePart 141 = .ok (.aload 4, 2) := by decide +kernel
theorem dX8_makePart_143 : decode cX8_makePart 143 = .ok (.iload 7, 2) := by decide +kernel
theorem dX8_makePart_145 : decode cX8_makePart 145 = .ok (.putfield 256, 3) := by decide +kernel
theorem dX8_makePart_148 : decode cX8_makePart 148 = .ok (.iconst 0, 1) := by decide +kernel
theorem dX8_makePart_149 : decode cX8_makePart 149 = .ok (.ireturn, 1) := by decide +kernel
theorem dX8_makePart_150 : decode cX8_makePart 150 = .ok (.aload 4, 2) := by decide +kernel
theorem dX8_makePart_152 : decode cX8_makePart 152 = .ok (.iload 7, 2) := by decide +kernel
theorem dX8_makePart_154 : decode cX8_makePart 154 = .ok (.iconst 1, 1) := by decide +kernel
theorem dX8_makePart_155 : decode cX8_makePart 155 = .ok (.iadd, 1) := by decide +kernel
theorem dX8_makePart_156 : decode cX8_makePart 156 = .ok (.iload 8, 2) := by decide +kernel
theorem dX8_makePart_158 : decode cX8_makePart 158 = .ok (.invokevirtual 283, 3) := by decide +kernel
theorem dX8_makePart_161 : decode cX8_makePart 161 = .ok (.aload 5, 2) := by decide +kernel
theorem dX8_makePart_163 : decode cX8_makePart 163 = .ok (.dup, 1) := by decide +kernel
theorem dX8_makePart_164 : decode cX8_makePart 164 = .ok (.getfield 170, 3) := by decide +kernel
theorem dX8_makePart_167 : decode cX8_makePart 167 = .ok (.iload 8, 2) := by decide +kernel
theorem dX8_makePart_169 : decode cX8_makePart 169 = .ok (.iconst 2, 1) := by decide +kernel
theorem dX8_makePart_170 : decode cX8_makePart 170 = .ok (.iadd, 1) := by decide +kernel
theorem dX8_makePart_171 : decode cX8_makePart 171 = .ok (.isub, 1) := by decide +kernel
theorem dX8_makePart_172 : decode cX8_makePart 172 = .ok (.putfield 170, 3) := by decide +kernel
theorem dX8_makePart_175 : decode cX8_makePart 175 = .ok (.iconst 1, 1) := by decide +kernel
theorem dX8_makePart_176 : decode cX8_makePart 176 = .ok (.ireturn, 1) := by decide +kernel
theorem dX8_countSending_0 : decode cX8_countSending 0 = .ok (.aload_n 0, 1) := by decide +kernel
theorem dX8_countSending_1 : decode cX8_countSending 1 = .ok (.dup, 1) := by decide +kernel
theorem dX8_countSending_2 : decode cX8_countSending 2 = .ok (.getfield 243, 3) := by decide +kernel
theorem dX8_countSending_5 : decode cX8_countSending 5 = .ok (.iconst 1, 1) := by decide +kernel
theorem dX8_countSending_6 : decode cX8_countSending 6 = .ok (.iadd, 1) := by decide +kernel
theorem dX8_countSending_7 : decode cX8_countSending 7 = .ok (.putfield 243, 3) := by decide +kernel
theorem dX8_countSending_10 : decode cX8_countSending 10 = .ok (.aload_n 1, 1) := by decide +kernel
theorem dX8_countSending_11 : decode cX8_countSending 11 = .ok (.dup, 1) := by decide +kernel
theorem dX8_countSending_12 : decode cX8_countSending 12 = .ok (.getfield 94, 3) := by decide +kernel
theorem dX8_countSending_15 : decode cX8_countSending 15 = .ok (.iconst 1, 1) := by decide +kernel
theorem dX8_countSending_16 : decode cX8_countSending 16 = .ok (.iadd, 1) := by decide +kernel
theorem dX8_countSending_17 : decode cX8_countSending 17 = .ok (.putfield 94, 3) := by decide +kernel
theorem dX8_countSending_20 : decode cX8_countSending 20 = .ok (.iload_n 2, 1) := by decide +kernel
theorem dX8_countSending_21 : decode cX8_countSending 21 = .ok (.ifCond .eq 15, 3) := by decide +kernel
theorem dX8_countSending_24 : decode cX8_countSending 24 = .ok (.aload_n 0, 1) := by decide +kernel
theorem dX8_countSending_25 : decode cX8_countSending 25 = .ok (.dup, 1) := by decide +kernel
theorem dX8_countSending_26 : decode cX8_countSending 26 = .ok (.getfield 244, 3) := by decide +kernel
theorem dX8_countSending_29 : decode cX8_countSending 29 = .ok (.iconst 1, 1) := by decide +kernel
theorem dX8_countSending_30 : decode cX8_countSending 30 = .ok (.iadd, 1) := by decide +kernel
theorem dX8_countSending_31 : decode cX8_countSending 31 = .ok (.putfield 244, 3) := by decide +kernel
theorem dX8_countSending_34 : decode cX8_countSending 34 = .ok (.iconst 0, 1) := by decide +kernel
theorem dX8_countSending_35 : decode cX8_countSending 35 = .ok (.ireturn, 1) := by decide +kernel
theorem dX8_countSending_36 : decode cX8_countSending 36 = .ok (.aload_n 1, 1) := by decide +kernel
theorem dX8_countSending_37 : decode cX8_countSending 37 = .ok (.getfield 240, 3) := by decide +kernel
theorem dX8_countSending_40 : decode cX8_countSending 40 = .ok (.ifCond .ne 7, 3) := by decide +kernel
theorem dX8_countSending_43 : decode cX8_countSending 43 = .ok (.iconst 1, 1) := by decide +kernel
theorem dX8_countSending_44 : decode cX8_countSending 44 = .ok (.goto 4, 3) := by decide +kernel
theorem dX8_countSending_47 : decode cX8_countSending 47 = .ok (.iconst 0, 1) := by decide +kernel
theorem dX8_countSending_48 : decode cX8_countSending 48 = .ok (.istore_n 3, 1) := by decide +kernel
theorem dX8_countSending_49 : decode cX8_countSending 49 = .ok (.aload_n 1, 1) := by decide +kernel
theorem dX8_countSending_50 : decode cX8_countSending 50 = .ok (.iconst 1, 1) := by decide +kernel
theorem dX8_countSending_51 : decode cX8_countSending 51 = .ok (.putfield 240, 3) := by decide +kernel
theorem dX8_countSending_54 : decode cX8_countSending 54 = .ok (.iload_n 3, 1) := by decide +kernel
theorem dX8_countSending_55 : decode cX8_countSending 55 = .ok (.ireturn, 1) := by decide +kernel
theorem dX8_takeAnswer_0 : decode cX8_takeAnswer 0 = .ok (.iload_n 2, 1) := by decide +kernel
theorem dX8_takeAnswer_1 : decode cX8_takeAnswer 1 = .ok (.ifCond .eq 13, 3) := by decide +kernel
theorem dX8_takeAnswer_4 : decode cX8_takeAnswer 4 = .ok (.aload_n 0, 1) := by decide +kernel
theorem dX8_takeAnswer_5 : decode cX8_takeAnswer 5 = .ok (.dup, 1) := by decide +kernel
theorem dX8_takeAnswer_6 : decode cX8_takeAnswer 6 = .ok (.getfield 247, 3) := by decide +kernel
theorem dX8_takeAnswer_9 : decode cX8_takeAnswer 9 = .ok (.iconst 1, 1) := by decide +kernel
theorem dX8_takeAnswer_10 : decode cX8_takeAnswer 10 = .ok (.iadd, 1) := by decide +kernel
theorem dX8_takeAnswer_11 : decode cX8_takeAnswer 11 = .ok (.putfield 247, 3) := by decide +kernel
theorem dX8_takeAnswer_14 : decode cX8_takeAnswer 14 = .ok (.aload_n 1, 1) := by decide +kernel
theorem dX8_takeAnswer_15 : decode cX8_takeAnswer 15 = .ok (.getfield 240, 3) := by decide +kernel
theorem dX8_takeAnswer_18 : decode cX8_takeAnswer 18 = .ok (.iload_n 2, 1) := by decide +kernel
theorem dX8_takeAnswer_19 : decode cX8_takeAnswer 19 = .ok (.if_icmp .eq 10, 3) := by decide +kernel
theorem dX8_takeAnswer_22 : decode cX8_takeAnswer 22 = .ok (.aload_n 1, 1) := by decide +kernel
theorem dX8_takeAnswer_23 : decode cX8_takeAnswer 23 = .ok (.invokevirtual 127, 3) := by decide +kernel
theorem dX8_takeAnswer_26 : decode cX8_takeAnswer 26 = .ok (.goto 25, 3) := by decide +kernel
theorem dX8_takeAnswer_29 : decode cX8_takeAnswer 29 = .ok (.aload_n 1, 1) := by decide +kernel
theorem dX8_takeAnswer_30 : decode cX8_takeAnswer 30 = .ok (.getfield 94, 3) := by decide +kernel
theorem dX8_takeAnswer_33 : decode cX8_takeAnswer 33 = .ok (.iconst 3, 1) := by decide +kernel
theorem dX8_takeAnswer_34 : decode cX8_takeAnswer 34 = .ok (.if_icmp .lt 17, 3) := by decide +kernel
theorem dX8_takeAnswer_37 : decode cX8_takeAnswer 37 = .ok (.aload_n 0, 1) := by decide +kernel
theorem dX8_takeAnswer_38 : decode cX8_takeAnswer 38 = .ok (.dup, 1) := by decide +kernel
theorem dX8_takeAnswer_39 : decode cX8_takeAnswer 39 = .ok (.getfield 250, 3) := by decide +kernel
theorem dX8_takeAnswer_42 : decode cX8_takeAnswer 42 = .ok (.iconst 1, 1) := by decide +kernel
theorem dX8_takeAnswer_43 : decode cX8_takeAnswer 43 = .ok (.iadd, 1) := by decide +kernel
theorem dX8_takeAnswer_44 : decode cX8_takeAnswer 44 = .ok (.putfield 250, 3) := by decide +kernel
theorem dX8_takeAnswer_47 : decode cX8_takeAnswer 47 = .ok (.aload_n 1, 1) := by decide +kernel
theorem dX8_takeAnswer_48 : decode cX8_takeAnswer 48 = .ok (.invokevirtual 127, 3) := by decide +kernel
theorem dX8_takeAnswer_51 : decode cX8_takeAnswer 51 = .ok (.return_, 1) := by decide +kernel
theorem dX8_workOn_0 : decode cX8_workOn 0 = .ok (.iconst 0, 1) := by decide +kernel
theorem dX8_workOn_1 : decode cX8_workOn 1 = .ok (.istore_n 3, 1) := by decide +kernel
theorem dX8_workOn_2 : decode cX8_workOn 2 = .ok (.iconst 0, 1) := by decide +kernel
theorem dX8_workOn_3 : decode cX8_workOn 3 = .ok (.istore 4, 2) := by decide +kernel
theorem dX8_workOn_5 : decode cX8_workOn 5 = .ok (.iload 4, 2) := by decide +kernel
theorem dX8_workOn_7 : decode cX8_workOn 7 = .ok (.sipush 250, 3) := by decide +kernel
theorem dX8_workOn_10 : decode cX8_workOn 10 = .ok (.if_icmp .ge 115, 3) := by decide +kernel
theorem dX8_workOn_13 : decode cX8_workOn 13 = .ok (.iload_n 3, 1) := by decide +kernel
theorem dX8_workOn_14 : decode cX8_workOn 14 = .ok (.iconst 2, 1) := by decide +kernel
theorem dX8_workOn_15 : decode cX8_workOn 15 = .ok (.iadd, 1) := by decide +kernel
theorem dX8_workOn_16 : decode cX8_workOn 16 = .ok (.aload_n 2, 1) := by decide +kernel
theorem dX8_workOn_17 : decode cX8_workOn 17 = .ok (.getfield 256, 3) := by decide +kernel
theorem dX8_workOn_20 : decode cX8_workOn 20 = .ok (.if_icmp .ge 105, 3) := by decide +kernel
theorem dX8_workOn_23 : decode cX8_workOn 23 = .ok (.aload_n 2, 1) := by decide +kernel
theorem dX8_workOn_24 : decode cX8_workOn 24 = .ok (.iload_n 3, 1) := by decide +kernel
theorem dX8_workOn_25 : decode cX8_workOn 25 = .ok (.invokevirtual 141, 3) := by decide +kernel
theorem dX8_workOn_28 : decode cX8_workOn 28 = .ok (.aload_n 0, 1) := by decide +kernel
theorem dX8_workOn_29 : decode cX8_workOn 29 = .ok (.getfield 16, 3) := by decide +kernel
theorem dX8_workOn_32 : decode cX8_workOn 32 = .ok (.if_icmp .ge 93, 3) := by decide +kernel
theorem dX8_workOn_35 : decode cX8_workOn 35 = .ok (.aload_n 0, 1) := by decide +kernel
theorem dX8_workOn_36 : decode cX8_workOn 36 = .ok (.iload_n 1, 1) := by decide +kernel
theorem dX8_workOn_37 : decode cX8_workOn 37 = .ok (.aload_n 2, 1) := by decide +kernel
theorem dX8_workOn_38 : decode cX8_workOn 38 = .ok (.iload_n 3, 1) := by decide +kernel
theorem dX8_workOn_39 : decode cX8_workOn 39 = .ok (.invokevirtual 141, 3) := by decide +kernel
theorem dX8_workOn_42 : decode cX8_workOn 42 = .ok (.invokevirtual 67, 3) := by decide +kernel
theorem dX8_workOn_45 : decode cX8_workOn 45 = .ok (.istore 5, 2) := by decide +kernel
theorem dX8_workOn_47 : decode cX8_workOn 47 = .ok (.aload_n 2, 1) := by decide +kernel
theorem dX8_workOn_48 : decode cX8_workOn 48 = .ok (.iload_n 3, 1) := by decide +kernel
theorem dX8_workOn_49 : decode cX8_workOn 49 = .ok (.iconst 1, 1) := by decide +kernel
theorem dX8_workOn_50 : decode cX8_workOn 50 = .ok (.iadd, 1) := by decide +kernel
theorem dX8_workOn_51 : decode cX8_workOn 51 = .ok (.invokevirtual 141, 3) := by decide +kernel
theorem dX8_workOn_54 : decode cX8_workOn 54 = .ok (.istore 6, 2) := by decide +kernel
theorem dX8_workOn_56 : decode cX8_workOn 56 = .ok (.aload_n 0, 1) := by decide +kernel
theorem dX8_workOn_57 : decode cX8_workOn 57 = .ok (.dup, 1) := by decide +kernel
theorem dX8_workOn_58 : decode cX8_workOn 58 = .ok (.getfield 253, 3) := by decide +kernel
theorem dX8_workOn_61 : decode cX8_workOn 61 = .ok (.iconst 1, 1) := by decide +kernel
theorem dX8_workOn_62 : decode cX8_workOn 62 = .ok (.iadd, 1) := by decide +kernel
theorem dX8_workOn_63 : decode cX8_workOn 63 = .ok (.putfield 253, 3) := by decide +kernel
theorem dX8_workOn_66 : decode cX8_workOn 66 = .ok (.aload_n 2, 1) := by decide +kernel
theorem dX8_workOn_67 : decode cX8_workOn 67 = .ok (.iload_n 3, 1) := by decide +kernel
theorem dX8_workOn_68 : decode cX8_workOn 68 = .ok (.iconst 2, 1) := by decide +kernel
theorem dX8_workOn_69 : decode cX8_workOn 69 = .ok (.iadd, 1) := by decide +kernel
theorem dX8_workOn_70 : decode cX8_workOn 70 = .ok (.invokevirtual 141, 3) := by decide +kernel
theorem dX8_workOn_73 : decode cX8_workOn 73 = .ok (.sipush 128, 3) := by decide +kernel
theorem dX8_workOn_76 : decode cX8_workOn 76 = .ok (.if_icmp .lt 22, 3) := by decide +kernel
theorem dX8_workOn_79 : decode cX8_workOn 79 = .ok (.aload_n 0, 1) := by decide +kernel
theorem dX8_workOn_80 : decode cX8_workOn 80 = .ok (.iload 5, 2) := by decide +kernel
theorem dX8_workOn_82 : decode cX8_workOn 82 = .ok (.aload_n 2, 1) := by decide +kernel
theorem dX8_workOn_83 : decode cX8_workOn 83 = .ok (.iload_n 3, 1) := by decide +kernel
theorem dX8_workOn_84 : decode cX8_workOn 84 = .ok (.iconst 2, 1) := by decide +kernel
theorem dX8_workOn_85 : decode cX8_workOn 85 = .ok (.iadd, 1) := by decide +kernel
theorem dX8_workOn_86 : decode cX8_workOn 86 = .ok (.iload_n 3, 1) := by decide +kernel
theorem dX8_workOn_87 : decode cX8_workOn 87 = .ok (.iconst 2, 1) := by decide +kernel
theorem dX8_workOn_88 : decode cX8_workOn 88 = .ok (.iadd, 1) := by decide +kernel
theorem dX8_workOn_89 : decode cX8_workOn 89 = .ok (.iload 6, 2) := by decide +kernel
theorem dX8_workOn_91 : decode cX8_workOn 91 = .ok (.iadd, 1) := by decide +kernel
theorem dX8_workOn_92 : decode cX8_workOn 92 = .ok (.invokevirtual 286, 3) := by decide +kernel
theorem dX8_workOn_95 : decode cX8_workOn 95 = .ok (.goto 17, 3) := by decide +kernel
theorem dX8_workOn_98 : decode cX8_workOn 98 = .ok (.aload_n 0, 1) := by decide +kernel
theorem dX8_workOn_99 : decode cX8_workOn 99 = .ok (.getfield 36, 3) := by decide +kernel
theorem dX8_workOn_102 : decode cX8_workOn 102 = .ok (.iload 5, 2) := by decide +kernel
theorem dX8_workOn_104 : decode cX8_workOn 104 = .ok (.aaload, 1) := by decide +kernel
theorem dX8_workOn_105 : decode cX8_workOn 105 = .ok (.aload_n 2, 1) := by decide +kernel
theorem dX8_workOn_106 : decode cX8_workOn 106 = .ok (.iload_n 3, 1) := by decide +kernel
theorem dX8_workOn_107 : decode cX8_workOn 107 = .ok (.iconst 2, 1) := by decide +kernel
theorem dX8_workOn_108 : decode cX8_workOn 108 = .ok (.iadd, 1) := by decide +kernel
theorem dX8_workOn_109 : decode cX8_workOn 109 = .ok (.invokevirtual 290, 3) := by decide +kernel
theorem dX8_workOn_112 : decode cX8_workOn 112 = .ok (.iload_n 3, 1) := by decide +kernel
theorem dX8_workOn_113 : decode cX8_workOn 113 = .ok (.iconst 2, 1) := by decide +kernel
theorem dX8_workOn_114 : decode cX8_workOn 114 = .ok (.iload 6, 2) := by decide +kernel
theorem dX8_workOn_116 : decode cX8_workOn 116 = .ok (.iadd, 1) := by decide +kernel
theorem dX8_workOn_117 : decode cX8_workOn 117 = .ok (.iadd, 1) := by decide +kernel
theorem dX8_workOn_118 : decode cX8_workOn 118 = .ok (.istore_n 3, 1) := by decide +kernel
theorem dX8_workOn_119 : decode cX8_workOn 119 = .ok (.iinc 4 1, 3) := by decide +kernel
theorem dX8_workOn_122 : decode cX8_workOn 122 = .ok (.goto (-117), 3) := by decide +kernel
theorem dX8_workOn_125 : decode cX8_workOn 125 = .ok (.return_, 1) := by decide +kernel
theorem dX8_takeData_0 : decode cX8_takeData 0 = .ok (.aload_n 0, 1) := by decide +kernel
theorem dX8_takeData_1 : decode cX8_takeData 1 = .ok (.getfield 42, 3) := by decide +kernel
theorem dX8_takeData_4 : decode cX8_takeData 4 = .ok (.iload_n 1, 1) := by decide +kernel
theorem dX8_takeData_5 : decode cX8_takeData 5 = .ok (.aaload, 1) := by decide +kernel
theorem dX8_takeData_6 : decode cX8_takeData 6 = .ok (.astore 5, 2) := by decide +kernel
theorem dX8_takeData_8 : decode cX8_takeData 8 = .ok (.aload 5, 2) := by decide +kernel
theorem dX8_takeData_10 : decode cX8_takeData 10 = .ok (.aload_n 2, 1) := by decide +kernel
theorem dX8_takeData_11 : decode cX8_takeData 11 = .ok (.iload_n 3, 1) := by decide +kernel
theorem dX8_takeData_12 : decode cX8_takeData 12 = .ok (.iload 4, 2) := by decide +kernel
theorem dX8_takeData_14 : decode cX8_takeData 14 = .ok (.invokevirtual 293, 3) := by decide +kernel
theorem dX8_takeData_17 : decode cX8_takeData 17 = .ok (.istore 6, 2) := by decide +kernel
theorem dX8_takeData_19 : decode cX8_takeData 19 = .ok (.iload 6, 2) := by decide +kernel
theorem dX8_takeData_21 : decode cX8_takeData 21 = .ok (.iconst (-1), 1) := by decide +kernel
theorem dX8_takeData_22 : decode cX8_takeData 22 = .ok (.if_icmp .ne 4, 3) := by decide +kernel
theorem dX8_takeData_25 : decode cX8_takeData 25 = .ok (.return_, 1) := by decide +kernel
theorem dX8_takeData_26 : decode cX8_takeData 26 = .ok (.aload 5, 2) := by decide +kernel
theorem dX8_takeData_28 : decode cX8_takeData 28 = .ok (.invokevirtual 297, 3) := by decide +kernel
theorem dX8_takeData_31 : decode cX8_takeData 31 = .ok (.iconst 0, 1) := by decide +kernel
theorem dX8_takeData_32 : decode cX8_takeData 32 = .ok (.istore 7, 2) := by decide +kernel
theorem dX8_takeData_34 : decode cX8_takeData 34 = .ok (.iload 7, 2) := by decide +kernel
theorem dX8_takeData_36 : decode cX8_takeData 36 = .ok (.bipush 32, 2) := by decide +kernel
theorem dX8_takeData_38 : decode cX8_takeData 38 = .ok (.if_icmp .ge 42, 3) := by decide +kernel
theorem dX8_takeData_41 : decode cX8_takeData 41 = .ok (.aload 5, 2) := by decide +kernel
theorem dX8_takeData_43 : decode cX8_takeData 43 = .ok (.aload 5, 2) := by decide +kernel
theorem dX8_takeData_45 : decode cX8_takeData 45 = .ok (.getfield 185, 3) := by decide +kernel
theorem dX8_takeData_48 : decode cX8_takeData 48 = .ok (.invokevirtual 300, 3) := by decide +kernel
theorem dX8_takeData_51 : decode cX8_takeData 51 = .ok (.ifCond .eq 29, 3) := by decide +kernel
theorem dX8_takeData_54 : decode cX8_takeData 54 = .ok (.aload_n 0, 1) := by decide +kernel
theorem dX8_takeData_55 : decode cX8_takeData 55 = .ok (.iload_n 1, 1) := by decide +kernel
theorem dX8_takeData_56 : decode cX8_takeData 56 = .ok (.aload 5, 2) := by decide +kernel
theorem dX8_takeData_58 : decode cX8_takeData 58 = .ok (.aload 5, 2) := by decide +kernel
theorem dX8_takeData_60 : decode cX8_takeData 60 = .ok (.getfield 185, 3) := by decide +kernel
theorem dX8_takeData_63 : decode cX8_takeData 63 = .ok (.invokevirtual 304, 3) := by decide +kernel
theorem dX8_takeData_66 : decode cX8_takeData 66 = .ok (.invokevirtual 308, 3) := by decide +kernel
theorem dX8_takeData_69 : decode cX8_takeData 69 = .ok (.aload 5, 2) := by decide +kernel
theorem dX8_takeData_71 : decode cX8_takeData 71 = .ok (.invokevirtual 312, 3) := by decide +kernel
theorem dX8_takeData_74 : decode cX8_takeData 74 = .ok (.iinc 7 1, 3) := by decide +kernel
theorem dX8_takeData_77 : decode cX8_takeData 77 = .ok (.goto (-43), 3) := by decide +kernel
theorem dX8_takeData_80 : decode cX8_takeData 80 = .ok (.aload 5, 2) := by decide +kernel
theorem dX8_takeData_82 : decode cX8_takeData 82 = .ok (.iload 6, 2) := by decide +kernel
theorem dX8_takeData_84 : decode cX8_takeData 84 = .ok (.aload_n 2, 1) := by decide +kernel
theorem dX8_takeData_85 : decode cX8_takeData 85 = .ok (.iload_n 3, 1) := by decide +kernel
theorem dX8_takeData_86 : decode cX8_takeData 86 = .ok (.invokevirtual 141, 3) := by decide +kernel
theorem dX8_takeData_89 : decode cX8_takeData 89 = .ok (.bipush 32, 2) := by decide +kernel
theorem dX8_takeData_91 : decode cX8_takeData 91 = .ok (.iand, 1) := by decide +kernel
theorem dX8_takeData_92 : decode cX8_takeData 92 = .ok (.ifCond .eq 7, 3) := by decide +kernel
theorem dX8_takeData_95 : decode cX8_takeData 95 = .ok (.iconst 1, 1) := by decide +kernel
theorem dX8_takeData_96 : decode cX8_takeData 96 = .ok (.goto 4, 3) := by decide +kernel
theorem dX8_takeData_99 : decode cX8_takeData 99 = .ok (.iconst 0, 1) := by decide +kernel
theorem dX8_takeData_100 : decode cX8_takeData 100 = .ok (.invokevirtual 315, 3) := by decide +kernel
theorem dX8_takeData_103 : decode cX8_takeData 103 = .ok (.return_, 1) := by decide +kernel
theorem dX8_handAllWhole_0 : decode cX8_handAllWhole 0 = .ok (.aload_n 0, 1) := by decide +kernel
theorem dX8_handAllWhole_1 : decode cX8_handAllWhole 1 = .ok (.getfield 42, 3) := by decide +kernel
theorem dX8_handAllWhole_4 : decode cX8_handAllWhole 4 = .ok (.iload_n 1, 1) := by decide +kernel
theorem dX8_handAllWhole_5 : decode cX8_handAllWhole 5 = .ok (.aaload, 1) := by decide +kernel
theorem dX8_handAllWhole_6 : decode cX8_handAllWhole 6 = .ok (.astore_n 2, 1) := by decide +kernel
theorem dX8_handAllWhole_7 : decode cX8_handAllWhole 7 = .ok (.aload_n 2, 1) := by decide +kernel
theorem dX8_handAllWhole_8 : decode cX8_handAllWhole 8 = .ok (.getfield 185, 3) := by decide +kernel
theorem dX8_handAllWhole_11 : decode cX8_handAllWhole 11 = .ok (.istore_n 3, 1) := by decide +kernel
theorem dX8_handAllWhole_12 : decode cX8_handAllWhole 12 = .ok (.iload_n 3, 1) := by decide +kernel
theorem dX8_handAllWhole_13 : decode cX8_handAllWhole 13 = .ok (.aload_n 2, 1) := by decide +kernel
theorem dX8_handAllWhole_14 : decode cX8_handAllWhole 14 = .ok (.getfield 186, 3) := by decide +kernel
theorem dX8_handAllWhole_17 : decode cX8_handAllWhole 17 = .ok (.if_icmp .ge 38, 3) := by decide +kernel
theorem dX8_handAllWhole_20 : decode cX8_handAllWhole 20 = .ok (.aload_n 2, 1) := by decide +kernel
theorem dX8_handAllWhole_21 : decode cX8_handAllWhole 21 = .ok (.iload_n 3, 1) := by decide +kernel
theorem dX8_handAllWhole_22 : decode cX8_handAllWhole 22 = .ok (.invokevirtual 300, 3) := by decide +kernel
theorem dX8_handAllWhole_25 : decode cX8_handAllWhole 25 = .ok (.ifCond .eq 16, 3) := by decide +kernel
theorem dX8_handAllWhole_28 : decode cX8_handAllWhole 28 = .ok (.aload_n 0, 1) := by decide +kernel
theorem dX8_handAllWhole_29 : decode cX8_handAllWhole 29 = .ok (.iload_n 1, 1) := by decide +kernel
theorem dX8_handAllWhole_30 : decode cX8_handAllWhole 30 = .ok (.aload_n 2, 1) := by decide +kernel
theorem dX8_handAllWhole_31 : decode cX8_handAllWhole 31 = .ok (.iload_n 3, 1) := by decide +kernel
theorem dX8_handAllWhole_32 : decode cX8_handAllWhole 32 = .ok (.invokevirtual 304, 3) := by decide +kernel
theorem dX8_handAllWhole_35 : decode cX8_handAllWhole 35 = .ok (.invokevirtual 308, 3) := by decide +kernel
theorem dX8_handAllWhole_38 : decode cX8_handAllWhole 38 = .ok (.goto 11, 3) := by decide +kernel
theorem dX8_handAllWhole_41 : decode cX8_handAllWhole 41 = .ok (.aload_n 2, 1) := by decide +kernel
theorem dX8_handAllWhole_42 : decode cX8_handAllWhole 42 = .ok (.getfield 133, 3) := by decide +kernel
theorem dX8_handAllWhole_45 : decode cX8_handAllWhole 45 = .ok (.iconst 0, 1) := by decide +kernel
theorem dX8_handAllWhole_46 : decode cX8_handAllWhole 46 = .ok (.putfield 319, 3) := by decide +kernel
theorem dX8_handAllWhole_49 : decode cX8_handAllWhole 49 = .ok (.iinc 3 1, 3) := by decide +kernel
theorem dX8_handAllWhole_52 : decode cX8_handAllWhole 52 = .ok (.goto (-40), 3) := by decide +kernel
theorem dX8_handAllWhole_55 : decode cX8_handAllWhole 55 = .ok (.aload_n 2, 1) := by decide +kernel
theorem dX8_handAllWhole_56 : decode cX8_handAllWhole 56 = .ok (.getfield 133, 3) := by decide +kernel
theorem dX8_handAllWhole_59 : decode cX8_handAllWhole 59 = .ok (.iconst 0, 1) := by decide +kernel
theorem dX8_handAllWhole_60 : decode cX8_handAllWhole 60 = .ok (.putfield 319, 3) := by decide +kernel
theorem dX8_handAllWhole_63 : decode cX8_handAllWhole 63 = .ok (.return_, 1) := by decide +kernel
theorem dX8_hand_0 : decode cX8_hand 0 = .ok (.aload_n 0, 1) := by decide +kernel
theorem dX8_hand_1 : decode cX8_hand 1 = .ok (.getfield 42, 3) := by decide +kernel
theorem dX8_hand_4 : decode cX8_hand 4 = .ok (.iload_n 1, 1) := by decide +kernel
theorem dX8_hand_5 : decode cX8_hand 5 = .ok (.aaload, 1) := by decide +kernel
theorem dX8_hand_6 : decode cX8_hand 6 = .ok (.getfield 133, 3) := by decide +kernel
theorem dX8_hand_9 : decode cX8_hand 9 = .ok (.astore_n 3, 1) := by decide +kernel
theorem dX8_hand_10 : decode cX8_hand 10 = .ok (.iconst 0, 1) := by decide +kernel
theorem dX8_hand_11 : decode cX8_hand 11 = .ok (.istore 4, 2) := by decide +kernel
theorem dX8_hand_13 : decode cX8_hand 13 = .ok (.iload 4, 2) := by decide +kernel
theorem dX8_hand_15 : decode cX8_hand 15 = .ok (.aload_n 2, 1) := by decide +kernel
theorem dX8_hand_16 : decode cX8_hand 16 = .ok (.getfield 322, 3) := by decide +kernel
theorem dX8_hand_19 : decode cX8_hand 19 = .ok (.if_icmp .ge 28, 3) := by decide +kernel
theorem dX8_hand_22 : decode cX8_hand 22 = .ok (.aload_n 3, 1) := by decide +kernel
theorem dX8_hand_23 : decode cX8_hand 23 = .ok (.aload_n 2, 1) := by decide +kernel
theorem dX8_hand_24 : decode cX8_hand 24 = .ok (.iload 4, 2) := by decide +kernel
theorem dX8_hand_26 : decode cX8_hand 26 = .ok (.invokevirtual 325, 3) := by decide +kernel
theorem dX8_hand_29 : decode cX8_hand 29 = .ok (.invokevirtual 328, 3) := by decide +kernel
theorem dX8_hand_32 : decode cX8_hand 32 = .ok (.ifCond .eq 9, 3) := by decide +kernel
theorem dX8_hand_35 : decode cX8_hand 35 = .ok (.aload_n 0, 1) := by decide +kernel
theorem dX8_hand_36 : decode cX8_hand 36 = .ok (.iload_n 1, 1) := by decide +kernel
theorem dX8_hand_37 : decode cX8_hand 37 = .ok (.aload_n 3, 1) := by decide +kernel
theorem dX8_hand_38 : decode cX8_hand 38 = .ok (.invokevirtual 331, 3) := by decide +kernel
theorem dX8_hand_41 : decode cX8_hand 41 = .ok (.iinc 4 1, 3) := by decide +kernel
theorem dX8_hand_44 : decode cX8_hand 44 = .ok (.goto (-31), 3) := by decide +kernel
theorem dX8_hand_47 : decode cX8_hand 47 = .ok (.return_, 1) := by decide +kernel
theorem dX8_takePacket_0 : decode cX8_takePacket 0 = .ok (.aload_n 2, 1) := by decide +kernel
theorem dX8_takePacket_1 : decode cX8_takePacket 1 = .ok (.getfield 335, 3) := by decide +kernel
theorem dX8_takePacket_4 : decode cX8_takePacket 4 = .ok (.iconst 0, 1) := by decide +kernel
theorem dX8_takePacket_5 : decode cX8_takePacket 5 = .ok (.iaload, 1) := by decide +kernel
theorem dX8_takePacket_6 : decode cX8_takePacket 6 = .ok (.sipush 128, 3) := by decide +kernel
theorem dX8_takePacket_9 : decode cX8_takePacket 9 = .ok (.if_icmp .ge 24, 3) := by decide +kernel
theorem dX8_takePacket_12 : decode cX8_takePacket 12 = .ok (.aload_n 0, 1) := by decide +kernel
theorem dX8_takePacket_13 : decode cX8_takePacket 13 = .ok (.getfield 36, 3) := by decide +kernel
theorem dX8_takePacket_16 : decode cX8_takePacket 16 = .ok (.iload_n 1, 1) := by decide +kernel
theorem dX8_takePacket_17 : decode cX8_takePacket 17 = .ok (.aaload, 1) := by decide +kernel
theorem dX8_takePacket_18 : decode cX8_takePacket 18 = .ok (.getfield 71, 3) := by decide +kernel
theorem dX8_takePacket_21 : decode cX8_takePacket 21 = .ok (.aload_n 2, 1) := by decide +kernel
theorem dX8_takePacket_22 : decode cX8_takePacket 22 = .ok (.getfield 335, 3) := by decide +kernel
theorem dX8_takePacket_25 : decode cX8_takePacket 25 = .ok (.aload_n 2, 1) := by decide +kernel
theorem dX8_takePacket_26 : decode cX8_takePacket 26 = .ok (.getfield 338, 3) := by decide +kernel
theorem dX8_takePacket_29 : decode cX8_takePacket 29 = .ok (.invokevirtual 341, 3) := by decide +kernel
theorem dX8_takePacket_32 : decode cX8_takePacket 32 = .ok (.return_, 1) := by decide +kernel
theorem dX8_takePacket_33 : decode cX8_takePacket 33 = .ok (.aload_n 2, 1) := by decide +kernel
theorem dX8_takePacket_34 : decode cX8_takePacket 34 = .ok (.invokevirtual 345, 3) := by decide +kernel
theorem dX8_takePacket_37 : decode cX8_takePacket 37 = .ok (.istore_n 3, 1) := by decide +kernel
theorem dX8_takePacket_38 : decode cX8_takePacket 38 = .ok (.aload_n 2, 1) := by decide +kernel
theorem dX8_takePacket_39 : decode cX8_takePacket 39 = .ok (.iload_n 3, 1) := by decide +kernel
theorem dX8_takePacket_40 : decode cX8_takePacket 40 = .ok (.invokevirtual 348, 3) := by decide +kernel
theorem dX8_takePacket_43 : decode cX8_takePacket 43 = .ok (.ifCond .eq 14, 3) := by decide +kernel
theorem dX8_takePacket_46 : decode cX8_takePacket 46 = .ok (.aload_n 2, 1) := by decide +kernel
theorem dX8_takePacket_47 : decode cX8_takePacket 47 = .ok (.dup, 1) := by decide +kernel
theorem dX8_takePacket_48 : decode cX8_takePacket 48 = .ok (.getfield 225, 3) := by decide +kernel
theorem dX8_takePacket_51 : decode cX8_takePacket 51 = .ok (.iconst 1, 1) := by decide +kernel
theorem dX8_takePacket_52 : decode cX8_takePacket 52 = .ok (.iadd, 1) := by decide +kernel
theorem dX8_takePacket_53 : decode cX8_takePacket 53 = .ok (.putfield 225, 3) := by decide +kernel
theorem dX8_takePacket_56 : decode cX8_takePacket 56 = .ok (.return_, 1) := by decide +kernel
theorem dX8_takePacket_57 : decode cX8_takePacket 57 = .ok (.aload_n 0, 1) := by decide +kernel
theorem dX8_takePacket_58 : decode cX8_takePacket 58 = .ok (.getfield 26, 3) := by decide +kernel
theorem dX8_takePacket_61 : decode cX8_takePacket 61 = .ok (.aload_n 2, 1) := by decide +kernel
theorem dX8_takePacket_62 : decode cX8_takePacket 62 = .ok (.getfield 335, 3) := by decide +kernel
theorem dX8_takePacket_65 : decode cX8_takePacket 65 = .ok (.aload_n 2, 1) := by decide +kernel
theorem dX8_takePacket_66 : decode cX8_takePacket 66 = .ok (.getfield 338, 3) := by decide +kernel
theorem dX8_takePacket_69 : decode cX8_takePacket 69 = .ok (.iload_n 3, 1) := by decide +kernel
theorem dX8_takePacket_70 : decode cX8_takePacket 70 = .ok (.aload_n 2, 1) := by decide +kernel
theorem dX8_takePacket_71 : decode cX8_takePacket 71 = .ok (.getfield 351, 3) := by decide +kernel
theorem dX8_takePacket_74 : decode cX8_takePacket 74 = .ok (.invokevirtual 354, 3) := by decide +kernel
theorem dX8_takePacket_77 : decode cX8_takePacket 77 = .ok (.aload_n 2, 1) := by decide +kernel
theorem dX8_takePacket_78 : decode cX8_takePacket 78 = .ok (.iload_n 3, 1) := by decide +kernel
theorem dX8_takePacket_79 : decode cX8_takePacket 79 = .ok (.invokevirtual 358, 3) := by decide +kernel
theorem dX8_takePacket_82 : decode cX8_takePacket 82 = .ok (.aload_n 2, 1) := by decide +kernel
theorem dX8_takePacket_83 : decode cX8_takePacket 83 = .ok (.invokevirtual 361, 3) := by decide +kernel
theorem dX8_takePacket_86 : decode cX8_takePacket 86 = .ok (.return_, 1) := by decide +kernel
theorem dX9_init_0 : decode cX9_init 0 = .ok (.aload_n 0, 1) := by decide +kernel
theorem dX9_init_1 : decode cX9_init 1 = .ok (.invokespecial 1, 3) := by decide +kernel
theorem dX9_init_4 : decode cX9_init 4 = .ok (.aload_n 0, 1) := by decide +kernel
theorem dX9_init_5 : decode cX9_init 5 = .ok (.bipush 120, 2) := by decide +kernel
theorem dX9_init_7 : decode cX9_init 7 = .ok (.newarray .int, 2) := by decide +kernel
theorem dX9_init_9 : decode cX9_init 9 = .ok (.putfield 9, 3) := by decide +kernel
theorem dX9_init_12 : decode cX9_init 12 = .ok (.aload_n 0, 1) := by decide +kernel
theorem dX9_init_13 : decode cX9_init 13 = .ok (.bipush 6, 2) := by decide +kernel
theorem dX9_init_15 : decode cX9_init 15 = .ok (.newarray .int, 2) := by decide +kernel
theorem dX9_init_17 : decode cX9_init 17 = .ok (.putfield 13, 3) := by decide +kernel
theorem dX9_init_20 : decode cX9_init 20 = .ok (.aload_n 0, 1) := by decide +kernel
theorem dX9_init_21 : decode cX9_init 21 = .ok (.bipush 6, 2) := by decide +kernel
theorem dX9_init_23 : decode cX9_init 23 = .ok (.newarray .int, 2) := by decide +kernel
theorem dX9_init_25 : decode cX9_init 25 = .ok (.putfield 16, 3) := by decide +kernel
theorem dX9_init_28 : decode cX9_init 28 = .ok (.aload_n 0, 1) := by decide +kernel
theorem dX9_init_29 : decode cX9_init 29 = .ok (.bipush 6, 2) := by decide +kernel
theorem dX9_init_31 : decode cX9_init 31 = .ok (.newarray .int, 2) := by decide +kernel
theorem dX9_init_33 : decode cX9_init 33 = .ok (.putfield 19, 3) := by decide +kernel
theorem dX9_init_36 : decode cX9_init 36 = .ok (.aload_n 0, 1) := by decide +kernel
theorem dX9_init_37 : decode cX9_init 37 = .ok (.bipush 6, 2) := by decide +kernel
theorem dX9_init_39 : decode cX9_init 39 = .ok (.newarray .int, 2) := by decide +kernel
theorem dX9_init_41 : decode cX9_init 41 = .ok (.putfield 22, 3) := by decide +kernel
theorem dX9_init_44 : decode cX9_init 44 = .ok (.aload_n 0, 1) := by decide +kernel
theorem dX9_init_45 : decode cX9_init 45 = .ok (.bipush 6, 2) := by decide +kernel
theorem dX9_init_47 : decode cX9_init 47 = .ok (.newarray .int, 2) := by decide +kernel
theorem dX9_init_49 : decode cX9_init 49 = .ok (.putfield 25, 3) := by decide +kernel
theorem dX9_init_52 : decode cX9_init 52 = .ok (.aload_n 0, 1) := by decide +kernel
theorem dX9_init_53 : decode cX9_init 53 = .ok (.bipush 6, 2) := by decide +kernel
theorem dX9_init_55 : decode cX9_init 55 = .ok (.newarray .int, 2) := by decide +kernel
theorem dX9_init_57 : decode cX9_init 57 = .ok (.putfield 28, 3) := by decide +kernel
theorem dX9_init_60 : decode cX9_init 60 = .ok (.aload_n 0, 1) := by decide +kernel
theorem dX9_init_61 : decode cX9_init 61 = .ok (.bipush 6, 2) := by decide +kernel
theorem dX9_init_63 : decode cX9_init 63 = .ok (.newarray .int, 2) := by decide +kernel
theorem dX9_init_65 : decode cX9_init 65 = .ok (.putfield 31, 3) := by decide +kernel
theorem dX9_init_68 : decode cX9_init 68 = .ok (.aload_n 0, 1) := by decide +kernel
theorem dX9_init_69 : decode cX9_init 69 = .ok (.bipush 6, 2) := by decide +kernel
theorem dX9_init_71 : decode cX9_init 71 = .ok (.newarray .int, 2) := by decide +kernel
theorem dX9_init_73 : decode cX9_init 73 = .ok (.putfield 34, 3) := by decide +kernel
theorem dX9_init_76 : decode cX9_init 76 = .ok (.aload_n 0, 1) := by decide +kernel
theorem dX9_init_77 : decode cX9_init 77 = .ok (.bipush 6, 2) := by decide +kernel
theorem dX9_init_79 : decode cX9_init 79 = .ok (.newarray .int, 2) := by decide +kernel
theorem dX9_init_81 : decode cX9_init 81 = .ok (.putfield 37, 3) := by decide +kernel
theorem dX9_init_84 : decode cX9_init 84 = .ok (.aload_n 0, 1) := by decide +kernel
theorem dX9_init_85 : decode cX9_init 85 = .ok (.bipush 6, 2) := by decide +kernel
theorem dX9_init_87 : decode cX9_init 87 = .ok (.newarray .int, 2) := by decide +kernel
theorem dX9_init_89 : decode cX9_init 89 = .ok (.putfield 40, 3) := by decide +kernel
theorem dX9_init_92 : decode cX9_init 92 = .ok (.aload_n 0, 1) := by decide +kernel
theorem dX9_init_93 : decode cX9_init 93 = .ok (.bipush 6, 2) := by decide +kernel
theorem dX9_init_95 : decode cX9_init 95 = .ok (.newarray .boolean, 2) := by decide +kernel
theorem dX9_init_97 : decode cX9_init 97 = .ok (.putfield 43, 3) := by decide +kernel
theorem dX9_init_100 : decode cX9_init 100 = .ok (.aload_n 0, 1) := by decide +kernel
theorem dX9_init_101 : decode cX9_init 101 = .ok (.bipush 6, 2) := by decide +kernel
theorem dX9_init_103 : decode cX9_init 103 = .ok (.newarray .boolean, 2) := by decide +kernel
theorem dX9_init_105 : decode cX9_init 105 = .ok (.putfield 47, 3) := by decide +kernel
theorem dX9_init_108 : decode cX9_init 108 = .ok (.aload_n 0, 1) := by decide +kernel
theorem dX9_init_109 : decode cX9_init 109 = .ok (.iconst 3, 1) := by decide +kernel
theorem dX9_init_110 : decode cX9_init 110 = .ok (.newarray .int, 2) := by decide +kernel
theorem dX9_init_112 : decode cX9_init 112 = .ok (.putfield 50, 3) := by decide +kernel
theorem dX9_init_115 : decode cX9_init 115 = .ok (.aload_n 0, 1) := by decide +kernel
theorem dX9_init_116 : decode cX9_init 116 = .ok (.sipush 192, 3) := by decide +kernel
theorem dX9_init_119 : decode cX9_init 119 = .ok (.newarray .boolean, 2) := by decide +kernel
theorem dX9_init_121 : decode cX9_init 121 = .ok (.putfield 53, 3) := by decide +kernel
theorem dX9_init_124 : decode cX9_init 124 = .ok (.aload_n 0, 1) := by decide +kernel
theorem dX9_init_125 : decode cX9_init 125 = .ok (.sipush 192, 3) := by decide +kernel
theorem dX9_init_128 : decode cX9_init 128 = .ok (.newarray .int, 2) := by decide +kernel
theorem dX9_init_130 : decode cX9_init 130 = .ok (.putfield 56, 3) := by decide +kernel
theorem dX9_init_133 : decode cX9_init 133 = .ok (.aload_n 0, 1) := by decide +kernel
theorem dX9_init_134 : decode cX9_init 134 = .ok (.sipush 192, 3) := by decide +kernel
theorem dX9_init_137 : decode cX9_init 137 = .ok (.newarray .int, 2) := by decide +kernel
theorem dX9_init_139 : decode cX9_init 139 = .ok (.putfield 59, 3) := by decide +kernel
theorem dX9_init_142 : decode cX9_init 142 = .ok (.aload_n 0, 1) := by decide +kernel
theorem dX9_init_143 : decode cX9_init 143 = .ok (.sipush 192, 3) := by decide +kernel
theorem dX9_init_146 : decode cX9_init 146 = .ok (.newarray .int, 2) := by decide +kernel
theorem dX9_init_148 : decode cX9_init 148 = .ok (.putfield 62, 3) := by decide +kernel
theorem dX9_init_151 : decode cX9_init 151 = .ok (.aload_n 0, 1) := by decide +kernel
theorem dX9_init_152 : decode cX9_init 152 = .ok (.sipush 23040, 3) := by decide +kernel
theorem dX9_init_155 : decode cX9_init 155 = .ok (.newarray .int, 2) := by decide +kernel
theorem dX9_init_157 : decode cX9_init 157 = .ok (.putfield 65, 3) := by decide +kernel
theorem dX9_init_160 : decode cX9_init 160 = .ok (.aload_n 0, 1) := by decide +kernel
theorem dX9_init_161 : decode cX9_init 161 = .ok (.sipush 26400, 3) := by decide +kernel
theorem dX9_init_164 : decode cX9_init 164 = .ok (.newarray .int, 2) := by decide +kernel
theorem dX9_init_166 : decode cX9_init 166 = .ok (.putfield 68, 3) := by decide +kernel
theorem dX9_init_169 : decode cX9_init 169 = .ok (.aload_n 0, 1) := by decide +kernel
theorem dX9_init_170 : decode cX9_init 170 = .ok (.sipush 26400, 3) := by decide +kernel
theorem dX9_init_173 : decode cX9_init 173 = .ok (.newarray .int, 2) := by decide +kernel
theorem dX9_init_175 : decode cX9_init 175 = .ok (.putfield 71, 3) := by decide +kernel
theorem dX9_init_178 : decode cX9_init 178 = .ok (.aload_n 0, 1) := by decide +kernel
theorem dX9_init_179 : decode cX9_init 179 = .ok (.bipush 6, 2) := by decide +kernel
theorem dX9_init_181 : decode cX9_init 181 = .ok (.newarray .int, 2) := by decide +kernel
theorem dX9_init_183 : decode cX9_init 183 = .ok (.putfield 74, 3) := by decide +kernel
theorem dX9_init_186 : decode cX9_init 186 = .ok (.aload_n 0, 1) := by decide +kernel
theorem dX9_init_187 : decode cX9_init 187 = .ok (.sipush 26400, 3) := by decide +kernel
theorem dX9_init_190 : decode cX9_init 190 = .ok (.newarray .boolean, 2) := by decide +kernel
theorem dX9_init_192 : decode cX9_init 192 = .ok (.putfield 77, 3) := by decide +kernel
theorem dX9_init_195 : decode cX9_init 195 = .ok (.aload_n 0, 1) := by decide +kernel
theorem dX9_init_196 : decode cX9_init 196 = .ok (.sipush 26400, 3) := by decide +kernel
theorem dX9_init_199 : decode cX9_init 199 = .ok (.newarray .boolean, 2) := by decide +kernel
theorem dX9_init_201 : decode cX9_init 201 = .ok (.putfield 80, 3) := by decide +kernel
theorem dX9_init_204 : decode cX9_init 204 = .ok (.aload_n 0, 1) := by decide +kernel
theorem dX9_init_205 : decode cX9_init 205 = .ok (.bipush 96, 2) := by decide +kernel
theorem dX9_init_207 : decode cX9_init 207 = .ok (.newarray .int, 2) := by decide +kernel
theorem dX9_init_209 : decode cX9_init 209 = .ok (.putfield 83, 3) := by decide +kernel
theorem dX9_init_212 : decode cX9_init 212 = .ok (.aload_n 0, 1) := by decide +kernel
theorem dX9_init_213 : decode cX9_init 213 = .ok (.bipush 96, 2) := by decide +kernel
theorem dX9_init_215 : decode cX9_init 215 = .ok (.newarray .int, 2) := by decide +kernel
theorem dX9_init_217 : decode cX9_init 217 = .ok (.putfield 86, 3) := by decide +kernel
theorem dX9_init_220 : decode cX9_init 220 = .ok (.aload_n 0, 1) := by decide +kernel
theorem dX9_init_221 : decode cX9_init 221 = .ok (.sipush 23040, 3) := by decide +kernel
theorem dX9_init_224 : decode cX9_init 224 = .ok (.newarray .int, 2) := by decide +kernel
theorem dX9_init_226 : decode cX9_init 226 = .ok (.putfield 89, 3) := by decide +kernel
theorem dX9_init_229 : decode cX9_init 229 = .ok (.aload_n 0, 1) := by decide +kernel
theorem dX9_init_230 : decode cX9_init 230 = .ok (.sipush 23040, 3) := by decide +kernel
theorem dX9_init_233 : decode cX9_init 233 = .ok (.newarray .int, 2) := by decide +kernel
theorem dX9_init_235 : decode cX9_init 235 = .ok (.putfield 92, 3) := by decide +kernel
theorem dX9_init_238 : decode cX9_init 238 = .ok (.aload_n 0, 1) := by decide +kernel
theorem dX9_init_239 : decode cX9_init 239 = .ok (.bipush 96, 2) := by decide +kernel
theorem dX9_init_241 : decode cX9_init 241 = .ok (.newarray .boolean, 2) := by decide +kernel
theorem dX9_init_243 : decode cX9_init 243 = .ok (.putfield 95, 3) := by decide +kernel
theorem dX9_init_246 : decode cX9_init 246 = .ok (.aload_n 0, 1) := by decide +kernel
theorem dX9_init_247 : decode cX9_init 247 = .ok (.sipush 23040, 3) := by decide +kernel
theorem dX9_init_250 : decode cX9_init 250 = .ok (.newarray .boolean, 2) := by decide +kernel
theorem dX9_init_252 : decode cX9_init 252 = .ok (.putfield 98, 3) := by decide +kernel
theorem dX9_init_255 : decode cX9_init 255 = .ok (.aload_n 0, 1) := by decide +kernel
theorem dX9_init_256 : decode cX9_init 256 = .ok (.sipush 23040, 3) := by decide +kernel
theorem dX9_init_259 : decode cX9_init 259 = .ok (.newarray .boolean, 2) := by decide +kernel
theorem dX9_init_261 : decode cX9_init 261 = .ok (.putfield 101, 3) := by decide +kernel
theorem dX9_init_264 : decode cX9_init 264 = .ok (.aload_n 0, 1) := by decide +kernel
theorem dX9_init_265 : decode cX9_init 265 = .ok (.sipush 23040, 3) := by decide +kernel
theorem dX9_init_268 : decode cX9_init 268 = .ok (.newarray .boolean, 2) := by decide +kernel
theorem dX9_init_270 : decode cX9_init 270 = .ok (.putfield 104, 3) := by decide +kernel
theorem dX9_init_273 : decode cX9_init 273 = .ok (.aload_n 0, 1) := by decide +kernel
theorem dX9_init_274 : decode cX9_init 274 = .ok (.bipush 6, 2) := by decide +kernel
theorem dX9_init_276 : decode cX9_init 276 = .ok (.newarray .int, 2) := by decide +kernel
theorem dX9_init_278 : decode cX9_init 278 = .ok (.putfield 107, 3) := by decide +kernel
theorem dX9_init_281 : decode cX9_init 281 = .ok (.aload_n 0, 1) := by decide +kernel
theorem dX9_init_282 : decode cX9_init 282 = .ok (.bipush 6, 2) := by decide +kernel
theorem dX9_init_284 : decode cX9_init 284 = .ok (.newarray .int, 2) := by decide +kernel
theorem dX9_init_286 : decode cX9_init 286 = .ok (.putfield 110, 3) := by decide +kernel
theorem dX9_init_289 : decode cX9_init 289 = .ok (.aload_n 0, 1) := by decide +kernel
theorem dX9_init_290 : decode cX9_init 290 = .ok (.bipush 6, 2) := by decide +kernel
theorem dX9_init_292 : decode cX9_init 292 = .ok (.newarray .int, 2) := by decide +kernel
theorem dX9_init_294 : decode cX9_init 294 = .ok (.putfield 113, 3) := by decide +kernel
theorem dX9_init_297 : decode cX9_init 297 = .ok (.aload_n 0, 1) := by decide +kernel
theorem dX9_init_298 : decode cX9_init 298 = .ok (.bipush 6, 2) := by decide +kernel
theorem dX9_init_300 : decode cX9_init 300 = .ok (.newarray .int, 2) := by decide +kernel
theorem dX9_init_302 : decode cX9_init 302 = .ok (.putfield 116, 3) := by decide +kernel
theorem dX9_init_305 : decode cX9_init 305 = .ok (.aload_n 0, 1) := by decide +kernel
theorem dX9_init_306 : decode cX9_init 306 = .ok (.bipush 6, 2) := by decide +kernel
theorem dX9_init_308 : decode cX9_init 308 = .ok (.newarray .int, 2) := by decide +kernel
theorem dX9_init_310 : decode cX9_init 310 = .ok (.putfield 119, 3) := by decide +kernel
theorem dX9_init_313 : decode cX9_init 313 = .ok (.aload_n 0, 1) := by decide +kernel
theorem dX9_init_314 : decode cX9_init 314 = .ok (.bipush 6, 2) := by decide +kernel
theorem dX9_init_316 : decode cX9_init 316 = .ok (.newarray .int, 2) := by decide +kernel
theorem dX9_init_318 : decode cX9_init 318 = .ok (.putfield 122, 3) := by decide +kernel
theorem dX9_init_321 : decode cX9_init 321 = .ok (.aload_n 0, 1) := by decide +kernel
theorem dX9_init_322 : decode cX9_init 322 = .ok (.bipush 6, 2) := by decide +kernel
theorem dX9_init_324 : decode cX9_init 324 = .ok (.newarray .int, 2) := by decide +kernel
theorem dX9_init_326 : decode cX9_init 326 = .ok (.putfield 125, 3) := by decide +kernel
theorem dX9_init_329 : decode cX9_init 329 = .ok (.aload_n 0, 1) := by decide +kernel
theorem dX9_init_330 : decode cX9_init 330 = .ok (.bipush 6, 2) := by decide +kernel
theorem dX9_init_332 : decode cX9_init 332 = .ok (.newarray .int, 2) := by decide +kernel
theorem dX9_init_334 : decode cX9_init 334 = .ok (.putfield 128, 3) := by decide +kernel
theorem dX9_init_337 : decode cX9_init 337 = .ok (.aload_n 0, 1) := by decide +kernel
theorem dX9_init_338 : decode cX9_init 338 = .ok (.bipush 6, 2) := by decide +kernel
theorem dX9_init_340 : decode cX9_init 340 = .ok (.newarray .int, 2) := by decide +kernel
theorem dX9_init_342 : decode cX9_init 342 = .ok (.putfield 131, 3) := by decide +kernel
theorem dX9_init_345 : decode cX9_init 345 = .ok (.aload_n 0, 1) := by decide +kernel
theorem dX9_init_346 : decode cX9_init 346 = .ok (.bipush 6, 2) := by decide +kernel
theorem dX9_init_348 : decode cX9_init 348 = .ok (.newarray .int, 2) := by decide +kernel
theorem dX9_init_350 : decode cX9_init 350 = .ok (.putfield 134, 3) := by decide +kernel
theorem dX9_init_353 : decode cX9_init 353 = .ok (.aload_n 0, 1) := by decide +kernel
theorem dX9_init_354 : decode cX9_init 354 = .ok (.bipush 6, 2) := by decide +kernel
theorem dX9_init_356 : decode cX9_init 356 = .ok (.newarray .boolean, 2) := by decide +kernel
theorem dX9_init_358 : decode cX9_init 358 = .ok (.putfield 137, 3) := by decide +kernel
theorem dX9_init_361 : decode cX9_init 361 = .ok (.aload_n 0, 1) := by decide +kernel
theorem dX9_init_362 : decode cX9_init 362 = .ok (.sipush 192, 3) := by decide +kernel
theorem dX9_init_365 : decode cX9_init 365 = .ok (.newarray .int, 2) := by decide +kernel
theorem dX9_init_367 : decode cX9_init 367 = .ok (.putfield 140, 3) := by decide +kernel
theorem dX9_init_370 : decode cX9_init 370 = .ok (.aload_n 0, 1) := by decide +kernel
theorem dX9_init_371 : decode cX9_init 371 = .ok (.ldc 143, 2) := by decide +kernel
theorem dX9_init_373 : decode cX9_init 373 = .ok (.newarray .int, 2) := by decide +kernel
theorem dX9_init_375 : decode cX9_init 375 = .ok (.putfield 144, 3) := by decide +kernel
theorem dX9_init_378 : decode cX9_init 378 = .ok (.aload_n 0, 1) := by decide +kernel
theorem dX9_init_379 : decode cX9_init 379 = .ok (.ldc 143, 2) := by decide +kernel
theorem dX9_init_381 : decode cX9_init 381 = .ok (.newarray .boolean, 2) := by decide +kernel
theorem dX9_init_383 : decode cX9_init 383 = .ok (.putfield 147, 3) := by decide +kernel
theorem dX9_init_386 : decode cX9_init 386 = .ok (.aload_n 0, 1) := by decide +kernel
theorem dX9_init_387 : decode cX9_init 387 = .ok (.ldc 143, 2) := by decide +kernel
theorem dX9_init_389 : decode cX9_init 389 = .ok (.newarray .boolean, 2) := by decide +kernel
theorem dX9_init_391 : decode cX9_init 391 = .ok (.putfield 150, 3) := by decide +kernel
theorem dX9_init_394 : decode cX9_init 394 = .ok (.aload_n 0, 1) := by decide +kernel
theorem dX9_init_395 : decode cX9_init 395 = .ok (.ldc 143, 2) := by decide +kernel
theorem dX9_init_397 : decode cX9_init 397 = .ok (.newarray .boolean, 2) := by decide +kernel
theorem dX9_init_399 : decode cX9_init 399 = .ok (.putfield 153, 3) := by decide +kernel
theorem dX9_init_402 : decode cX9_init 402 = .ok (.aload_n 0, 1) := by decide +kernel
theorem dX9_init_403 : decode cX9_init 403 = .ok (.bipush 6, 2) := by decide +kernel
theorem dX9_init_405 : decode cX9_init 405 = .ok (.newarray .int, 2) := by decide +kernel
theorem dX9_init_407 : decode cX9_init 407 = .ok (.putfield 156, 3) := by decide +kernel
theorem dX9_init_410 : decode cX9_init 410 = .ok (.aload_n 0, 1) := by decide +kernel
theorem dX9_init_411 : decode cX9_init 411 = .ok (.sipush 1536, 3) := by decide +kernel
theorem dX9_init_414 : decode cX9_init 414 = .ok (.newarray .int, 2) := by decide +kernel
theorem dX9_init_416 : decode cX9_init 416 = .ok (.putfield 159, 3) := by decide +kernel
theorem dX9_init_419 : decode cX9_init 419 = .ok (.aload_n 0, 1) := by decide +kernel
theorem dX9_init_420 : decode cX9_init 420 = .ok (.bipush 6, 2) := by decide +kernel
theorem dX9_init_422 : decode cX9_init 422 = .ok (.newarray .int, 2) := by decide +kernel
theorem dX9_init_424 : decode cX9_init 424 = .ok (.putfield 162, 3) := by decide +kernel
theorem dX9_init_427 : decode cX9_init 427 = .ok (.aload_n 0, 1) := by decide +kernel
theorem dX9_init_428 : decode cX9_init 428 = .ok (.bipush 6, 2) := by decide +kernel
theorem dX9_init_430 : decode cX9_init 430 = .ok (.newarray .int, 2) := by decide +kernel
theorem dX9_init_432 : decode cX9_init 432 = .ok (.putfield 165, 3) := by decide +kernel
theorem dX9_init_435 : decode cX9_init 435 = .ok (.aload_n 0, 1) := by decide +kernel
theorem dX9_init_436 : decode cX9_init 436 = .ok (.bipush 6, 2) := by decide +kernel
theorem dX9_init_438 : decode cX9_init 438 = .ok (.newarray .int, 2) := by decide +kernel
theorem dX9_init_440 : decode cX9_init 440 = .ok (.putfield 168, 3) := by decide +kernel
theorem dX9_init_443 : decode cX9_init 443 = .ok (.aload_n 0, 1) := by decide +kernel
theorem dX9_init_444 : decode cX9_init 444 = .ok (.bipush 6, 2) := by decide +kernel
theorem dX9_init_446 : decode cX9_init 446 = .ok (.newarray .int, 2) := by decide +kernel
theorem dX9_init_448 : decode cX9_init 448 = .ok (.putfield 171, 3) := by decide +kernel
theorem dX9_init_451 : decode cX9_init 451 = .ok (.aload_n 0, 1) := by decide +kernel
theorem dX9_init_452 : decode cX9_init 452 = .ok (.bipush 6, 2) := by decide +kernel
theorem dX9_init_454 : decode cX9_init 454 = .ok (.newarray .int, 2) := by decide +kernel
theorem dX9_init_456 : decode cX9_init 456 = .ok (.putfield 174, 3) := by decide +kernel
theorem dX9_init_459 : decode cX9_init 459 = .ok (.aload_n 0, 1) := by decide +kernel
theorem dX9_init_460 : decode cX9_init 460 = .ok (.sipush 192, 3) := by decide +kernel
theorem dX9_init_463 : decode cX9_init 463 = .ok (.newarray .int, 2) := by decide +kernel
theorem dX9_init_465 : decode cX9_init 465 = .ok (.putfield 177, 3) := by decide +kernel
theorem dX9_init_468 : decode cX9_init 468 = .ok (.aload_n 0, 1) := by decide +kernel
theorem dX9_init_469 : decode cX9_init 469 = .ok (.sipush 23040, 3) := by decide +kernel
theorem dX9_init_472 : decode cX9_init 472 = .ok (.newarray .int, 2) := by decide +kernel
theorem dX9_init_474 : decode cX9_init 474 = .ok (.putfield 180, 3) := by decide +kernel
theorem dX9_init_477 : decode cX9_init 477 = .ok (.aload_n 0, 1) := by decide +kernel
theorem dX9_init_478 : decode cX9_init 478 = .ok (.sipush 720, 3) := by decide +kernel
theorem dX9_init_481 : decode cX9_init 481 = .ok (.newarray .int, 2) := by decide +kernel
theorem dX9_init_483 : decode cX9_init 483 = .ok (.putfield 183, 3) := by decide +kernel
theorem dX9_init_486 : decode cX9_init 486 = .ok (.aload_n 0, 1) := by decide +kernel
theorem dX9_init_487 : decode cX9_init 487 = .ok (.sipush 192, 3) := by decide +kernel
theorem dX9_init_490 : decode cX9_init 490 = .ok (.newarray .boolean, 2) := by decide +kernel
theorem dX9_init_492 : decode cX9_init 492 = .ok (.putfield 186, 3) := by decide +kernel
theorem dX9_init_495 : decode cX9_init 495 = .ok (.aload_n 0, 1) := by decide +kernel
theorem dX9_init_496 : decode cX9_init 496 = .ok (.bipush 8, 2) := by decide +kernel
theorem dX9_init_498 : decode cX9_init 498 = .ok (.newarray .int, 2) := by decide +kernel
theorem dX9_init_500 : decode cX9_init 500 = .ok (.putfield 189, 3) := by decide +kernel
theorem dX9_init_503 : decode cX9_init 503 = .ok (.aload_n 0, 1) := by decide +kernel
theorem dX9_init_504 : decode cX9_init 504 = .ok (.bipush 8, 2) := by decide +kernel
theorem dX9_init_506 : decode cX9_init 506 = .ok (.newarray .int, 2) := by decide +kernel
theorem dX9_init_508 : decode cX9_init 508 = .ok (.putfield 192, 3) := by decide +kernel
theorem dX9_init_511 : decode cX9_init 511 = .ok (.aload_n 0, 1) := by decide +kernel
theorem dX9_init_512 : decode cX9_init 512 = .ok (.sipush 2000, 3) := by decide +kernel
theorem dX9_init_515 : decode cX9_init 515 = .ok (.newarray .int, 2) := by decide +kernel
theorem dX9_init_517 : decode cX9_init 517 = .ok (.putfield 195, 3) := by decide +kernel
theorem dX9_init_520 : decode cX9_init 520 = .ok (.aload_n 0, 1) := by decide +kernel
theorem dX9_init_521 : decode cX9_init 521 = .ok (.bipush 8, 2) := by decide +kernel
theorem dX9_init_523 : decode cX9_init 523 = .ok (.newarray .boolean, 2) := by decide +kernel
theorem dX9_init_525 : decode cX9_init 525 = .ok (.putfield 198, 3) := by decide +kernel
theorem dX9_init_528 : decode cX9_init 528 = .ok (.aload_n 0, 1) := by decide +kernel
theorem dX9_init_529 : decode cX9_init 529 = .ok (.iconst 2, 1) := by decide +kernel
theorem dX9_init_530 : decode cX9_init 530 = .ok (.newarray .int, 2) := by decide +kernel
theorem dX9_init_532 : decode cX9_init 532 = .ok (.putfield 201, 3) := by decide +kernel
theorem dX9_init_535 : decode cX9_init 535 = .ok (.aload_n 0, 1) := by decide +kernel
theorem dX9_init_536 : decode cX9_init 536 = .ok (.sipush 500, 3) := by decide +kernel
theorem dX9_init_539 : decode cX9_init 539 = .ok (.newarray .int, 2) := by decide +kernel
theorem dX9_init_541 : decode cX9_init 541 = .ok (.putfield 204, 3) := by decide +kernel
theorem dX9_init_544 : decode cX9_init 544 = .ok (.aload_n 0, 1) := by decide +kernel
theorem dX9_init_545 : decode cX9_init 545 = .ok (.sipush 250, 3) := by decide +kernel
theorem dX9_init_548 : decode cX9_init 548 = .ok (.newarray .int, 2) := by decide +kernel
theorem dX9_init_550 : decode cX9_init 550 = .ok (.putfield 207, 3) := by decide +kernel
theorem dX9_init_553 : decode cX9_init 553 = .ok (.aload_n 0, 1) := by decide +kernel
theorem dX9_init_554 : decode cX9_init 554 = .ok (.sipush 256, 3) := by decide +kernel
theorem dX9_init_557 : decode cX9_init 557 = .ok (.newarray .int, 2) := by decide +kernel
theorem dX9_init_559 : decode cX9_init 559 = .ok (.putfield 210, 3) := by decide +kernel
theorem dX9_init_562 : decode cX9_init 562 = .ok (.aload_n 0, 1) := by decide +kernel
theorem dX9_init_563 : decode cX9_init 563 = .ok (.sipush 176, 3) := by decide +kernel
theorem dX9_init_566 : decode cX9_init 566 = .ok (.newarray .int, 2) := by decide +kernel
theorem dX9_init_568 : decode cX9_init 568 = .ok (.putfield 213, 3) := by decide +kernel
theorem dX9_init_571 : decode cX9_init 571 = .ok (.aload_n 0, 1) := by decide +kernel
theorem dX9_init_572 : decode cX9_init 572 = .ok (.bipush 16, 2) := by decide +kernel
theorem dX9_init_574 : decode cX9_init 574 = .ok (.newarray .int, 2) := by decide +kernel
theorem dX9_init_576 : decode cX9_init 576 = .ok (.putfield 216, 3) := by decide +kernel
theorem dX9_init_579 : decode cX9_init 579 = .ok (.aload_n 0, 1) := by decide +kernel
theorem dX9_init_580 : decode cX9_init 580 = .ok (.bipush 16, 2) := by decide +kernel
theorem dX9_init_582 : decode cX9_init 582 = .ok (.newarray .int, 2) := by decide +kernel
theorem dX9_init_584 : decode cX9_init 584 = .ok (.putfield 219, 3) := by decide +kernel
theorem dX9_init_587 : decode cX9_init 587 = .ok (.aload_n 0, 1) := by decide +kernel
theorem dX9_init_588 : decode cX9_init 588 = .ok (.sipush 128, 3) := by decide +kernel
theorem dX9_init_591 : decode cX9_init 591 = .ok (.newarray .int, 2) := by decide +kernel
theorem dX9_init_593 : decode cX9_init 593 = .ok (.putfield 222, 3) := by decide +kernel
theorem dX9_init_596 : decode cX9_init 596 = .ok (.aload_n 0, 1) := by decide +kernel
theorem dX9_init_597 : decode cX9_init 597 = .ok (.sipush 250, 3) := by decide +kernel
theorem dX9_init_600 : decode cX9_init 600 = .ok (.newarray .int, 2) := by decide +kernel
theorem dX9_init_602 : decode cX9_init 602 = .ok (.putfield 225, 3) := by decide +kernel
theorem dX9_init_605 : decode cX9_init 605 = .ok (.aload_n 0, 1) := by decide +kernel
theorem dX9_init_606 : decode cX9_init 606 = .ok (.iload_n 1, 1) := by decide +kernel
theorem dX9_init_607 : decode cX9_init 607 = .ok (.iconst 1, 1) := by decide +kernel
theorem dX9_init_608 : decode cX9_init 608 = .ok (.if_icmp .lt 8, 3) := by decide +kernel
theorem dX9_init_611 : decode cX9_init 611 = .ok (.iload_n 1, 1) := by decide +kernel
theorem dX9_init_612 : decode cX9_init 612 = .ok (.iconst 3, 1) := by decide +kernel
theorem dX9_init_613 : decode cX9_init 613 = .ok (.if_icmp .le 7, 3) := by decide +kernel
theorem dX9_init_616 : decode cX9_init 616 = .ok (.iconst 2, 1) := by decide +kernel
theorem dX9_init_617 : decode cX9_init 617 = .ok (.goto 4, 3) := by decide +kernel
theorem dX9_init_620 : decode cX9_init 620 = .ok (.iload_n 1, 1) := by decide +kernel
theorem dX9_init_621 : decode cX9_init 621 = .ok (.putfield 228, 3) := by decide +kernel
theorem dX9_init_624 : decode cX9_init 624 = .ok (.aload_n 0, 1) := by decide +kernel
theorem dX9_init_625 : decode cX9_init 625 = .ok (.iload_n 2, 1) := by decide +kernel
theorem dX9_init_626 : decode cX9_init 626 = .ok (.putfield 232, 3) := by decide +kernel
theorem dX9_init_629 : decode cX9_init 629 = .ok (.iconst 0, 1) := by decide +kernel
theorem dX9_init_630 : decode cX9_init 630 = .ok (.istore_n 3, 1) := by decide +kernel
theorem dX9_init_631 : decode cX9_init 631 = .ok (.iload_n 3, 1) := by decide +kernel
theorem dX9_init_632 : decode cX9_init 632 = .ok (.iconst 3, 1) := by decide +kernel
theorem dX9_init_633 : decode cX9_init 633 = .ok (.if_icmp .ge 17, 3) := by decide +kernel
theorem dX9_init_636 : decode cX9_init 636 = .ok (.aload_n 0, 1) := by decide +kernel
theorem dX9_init_637 : decode cX9_init 637 = .ok (.getfield 50, 3) := by decide +kernel
theorem dX9_init_640 : decode cX9_init 640 = .ok (.iload_n 3, 1) := by decide +kernel
theorem dX9_init_641 : decode cX9_init 641 = .ok (.bipush 16, 2) := by decide +kernel
theorem dX9_init_643 : decode cX9_init 643 = .ok (.iastore, 1) := by decide +kernel
theorem dX9_init_644 : decode cX9_init 644 = .ok (.iinc 3 1, 3) := by decide +kernel
theorem dX9_init_647 : decode cX9_init 647 = .ok (.goto (-16), 3) := by decide +kernel
theorem dX9_init_650 : decode cX9_init 650 = .ok (.iconst 0, 1) := by decide +kernel
theorem dX9_init_651 : decode cX9_init 651 = .ok (.istore_n 3, 1) := by decide +kernel
theorem dX9_init_652 : decode cX9_init 652 = .ok (.iload_n 3, 1) := by decide +kernel
theorem dX9_init_653 : decode cX9_init 653 = .ok (.bipush 6, 2) := by decide +kernel
theorem dX9_init_655 : decode cX9_init 655 = .ok (.if_icmp .ge 30, 3) := by decide +kernel
theorem dX9_init_658 : decode cX9_init 658 = .ok (.aload_n 0, 1) := by decide +kernel
theorem dX9_init_659 : decode cX9_init 659 = .ok (.getfield 156, 3) := by decide +kernel
theorem dX9_init_662 : decode cX9_init 662 = .ok (.iload_n 3, 1) := by decide +kernel
theorem dX9_init_663 : decode cX9_init 663 = .ok (.iconst (-1), 1) := by decide +kernel
theorem dX9_init_664 : decode cX9_init 664 = .ok (.iastore, 1) := by decide +kernel
theorem dX9_init_665 : decode cX9_init 665 = .ok (.aload_n 0, 1) := by decide +kernel
theorem dX9_init_666 : decode cX9_init 666 = .ok (.getfield 125, 3) := by decide +kernel
theorem dX9_init_669 : decode cX9_init 669 = .ok (.iload_n 3, 1) := by decide +kernel
theorem dX9_init_670 : decode cX9_init 670 = .ok (.iconst (-1), 1) := by decide +kernel
theorem dX9_init_671 : decode cX9_init 671 = .ok (.iastore, 1) := by decide +kernel
theorem dX9_init_672 : decode cX9_init 672 = .ok (.aload_n 0, 1) := by decide +kernel
theorem dX9_init_673 : decode cX9_init 673 = .ok (.getfield 25, 3) := by decide +kernel
theorem dX9_init_676 : decode cX9_init 676 = .ok (.iload_n 3, 1) := by decide +kernel
theorem dX9_init_677 : decode cX9_init 677 = .ok (.iconst (-1), 1) := by decide +kernel
theorem dX9_init_678 : decode cX9_init 678 = .ok (.iastore, 1) := by decide +kernel
theorem dX9_init_679 : decode cX9_init 679 = .ok (.iinc 3 1, 3) := by decide +kernel
theorem dX9_init_682 : decode cX9_init 682 = .ok (.goto (-30), 3) := by decide +kernel
theorem dX9_init_685 : decode cX9_init 685 = .ok (.iconst 0, 1) := by decide +kernel
theorem dX9_init_686 : decode cX9_init 686 = .ok (.istore_n 3, 1) := by decide +kernel
theorem dX9_init_687 : decode cX9_init 687 = .ok (.iload_n 3, 1) := by decide +kernel
theorem dX9_init_688 : decode cX9_init 688 = .ok (.sipush 192, 3) := by decide +kernel
theorem dX9_init_691 : decode cX9_init 691 = .ok (.if_icmp .ge 16, 3) := by decide +kernel
theorem dX9_init_694 : decode cX9_init 694 = .ok (.aload_n 0, 1) := by decide +kernel
theorem dX9_init_695 : decode cX9_init 695 = .ok (.getfield 140, 3) := by decide +kernel
theorem dX9_init_698 : decode cX9_init 698 = .ok (.iload_n 3, 1) := by decide +kernel
theorem dX9_init_699 : decode cX9_init 699 = .ok (.iconst (-1), 1) := by decide +kernel
theorem dX9_init_700 : decode cX9_init 700 = .ok (.iastore, 1) := by decide +kernel
theorem dX9_init_701 : decode cX9_init 701 = .ok (.iinc 3 1, 3) := by decide +kernel
theorem dX9_init_704 : decode cX9_init 704 = .ok (.goto (-17), 3) := by decide +kernel
theorem dX9_init_707 : decode cX9_init 707 = .ok (.aload_n 0, 1) := by decide +kernel
theorem dX9_init_708 : decode cX9_init 708 = .ok (.getfield 201, 3) := by decide +kernel
theorem dX9_init_711 : decode cX9_init 711 = .ok (.iconst 0, 1) := by decide +kernel
theorem dX9_init_712 : decode cX9_init 712 = .ok (.iconst (-1), 1) := by decide +kernel
theorem dX9_init_713 : decode cX9_init 713 = .ok (.iastore, 1) := by decide +kernel
theorem dX9_init_714 : decode cX9_init 714 = .ok (.aload_n 0, 1) := by decide +kernel
theorem dX9_init_715 : decode cX9_init 715 = .ok (.getfield 201, 3) := by decide +kernel
theorem dX9_init_718 : decode cX9_init 718 = .ok (.iconst 1, 1) := by decide +kernel
theorem dX9_init_719 : decode cX9_init 719 = .ok (.iconst (-1), 1) := by decide +kernel
theorem dX9_init_720 : decode cX9_init 720 = .ok (.iastore, 1) := by decide +kernel
theorem dX9_init_721 : decode cX9_init 721 = .ok (.aload_n 0, 1) := by decide +kernel
theorem dX9_init_722 : decode cX9_init 722 = .ok (.invokevirtual 235, 3) := by decide +kernel
theorem dX9_init_725 : decode cX9_init 725 = .ok (.return_, 1) := by decide +kernel
theorem dX9_isThere_0 : decode cX9_isThere 0 = .ok (.iload_n 1, 1) := by decide +kernel
theorem dX9_isThere_1 : decode cX9_isThere 1 = .ok (.ifCond .lt 24, 3) := by decide +kernel
theorem dX9_isThere_4 : decode cX9_isThere 4 = .ok (.iload_n 1, 1) := by decide +kernel
theorem dX9_isThere_5 : decode cX9_isThere 5 = .ok (.iconst 2, 1) := by decide +kernel
theorem dX9_isThere_6 : decode cX9_isThere 6 = .ok (.if_icmp .ge 19, 3) := by decide +kernel
theorem dX9_isThere_9 : decode cX9_isThere 9 = .ok (.iload_n 2, 1) := by decide +kernel
theorem dX9_isThere_10 : decode cX9_isThere 10 = .ok (.ifCond .lt 15, 3) := by decide +kernel
theorem dX9_isThere_13 : decode cX9_isThere 13 = .ok (.iload_n 2, 1) := by decide +kernel
theorem dX9_isThere_14 : decode cX9_isThere 14 = .ok (.aload_n 0, 1) := by decide +kernel
theorem dX9_isThere_15 : decode cX9_isThere 15 = .ok (.getfield 228, 3) := by decide +kernel
theorem dX9_isThere_18 : decode cX9_isThere 18 = .ok (.if_icmp .ge 7, 3) := by decide +kernel
theorem dX9_isThere_21 : decode cX9_isThere 21 = .ok (.iconst 1, 1) := by decide +kernel
theorem dX9_isThere_22 : decode cX9_isThere 22 = .ok (.goto 4, 3) := by decide +kernel
theorem dX9_isThere_25 : decode cX9_isThere 25 = .ok (.iconst 0, 1) := by decide +kernel
theorem dX9_isThere_26 : decode cX9_isThere 26 = .ok (.ireturn, 1) := by decide +kernel
theorem dX9_at_0 : decode cX9_at 0 = .ok (.iconst 3, 1) := by decide +kernel
theorem dX9_at_1 : decode cX9_at 1 = .ok (.iload_n 0, 1) := by decide +kernel
theorem dX9_at_2 : decode cX9_at 2 = .ok (.imul, 1) := by decide +kernel
theorem dX9_at_3 : decode cX9_at 3 = .ok (.iload_n 1, 1) := by decide +kernel
theorem dX9_at_4 : decode cX9_at 4 = .ok (.iadd, 1) := by decide +kernel
theorem dX9_at_5 : decode cX9_at 5 = .ok (.ireturn, 1) := by decide +kernel
theorem dX9_doubled_0 : decode cX9_doubled 0 = .ok (.iload_n 0, 1) := by decide +kernel
theorem dX9_doubled_1 : decode cX9_doubled 1 = .ok (.iconst 1, 1) := by decide +kernel
theorem dX9_doubled_2 : decode cX9_doubled 2 = .ok (.ishl, 1) := by decide +kernel
theorem dX9_doubled_3 : decode cX9_doubled 3 = .ok (.sipush 255, 3) := by decide +kernel
theorem dX9_doubled_6 : decode cX9_doubled 6 = .ok (.iand, 1) := by decide +kernel
theorem dX9_doubled_7 : decode cX9_doubled 7 = .ok (.iload_n 0, 1) := by decide +kernel
theorem dX9_doubled_8 : decode cX9_doubled 8 = .ok (.bipush 127, 2) := by decide +kernel
theorem dX9_doubled_10 : decode cX9_doubled 10 = .ok (.if_icmp .le 8, 3) := by decide +kernel
theorem dX9_doubled_13 : decode cX9_doubled 13 = .ok (.bipush 27, 2) := by decide +kernel
theorem dX9_doubled_15 : decode cX9_doubled 15 = .ok (.goto 4, 3) := by decide +kernel
theorem dX9_doubled_18 : decode cX9_doubled 18 = .ok (.iconst 0, 1) := by decide +kernel
theorem dX9_doubled_19 : decode cX9_doubled 19 = .ok (.ixor, 1) := by decide +kernel
theorem dX9_doubled_20 : decode cX9_doubled 20 = .ok (.ireturn, 1) := by decide +kernel
theorem dX9_times_0 : decode cX9_times 0 = .ok (.iconst 0, 1) := by decide +kernel
theorem dX9_times_1 : decode cX9_times 1 = .ok (.istore_n 2, 1) := by decide +kernel
theorem dX9_times_2 : decode cX9_times 2 = .ok (.iload_n 0, 1) := by decide +kernel
theorem dX9_times_3 : decode cX9_times 3 = .ok (.istore_n 3, 1) := by decide +kernel
theorem dX9_times_4 : decode cX9_times 4 = .ok (.iconst 0, 1) := by decide +kernel
theorem dX9_times_5 : decode cX9_times 5 = .ok (.istore 4, 2) := by decide +kernel
theorem dX9_times_7 : decode cX9_times 7 = .ok (.iload 4, 2) := by decide +kernel
theorem dX9_times_9 : decode cX9_times 9 = .ok (.bipush 8, 2) := by decide +kernel
theorem dX9_times_11 : decode cX9_times 11 = .ok (.if_icmp .ge 28, 3) := by decide +kernel
theorem dX9_times_14 : decode cX9_times 14 = .ok (.iload_n 1, 1) := by decide +kernel
theorem dX9_times_15 : decode cX9_times 15 = .ok (.iload 4, 2) := by decide +kernel
theorem dX9_times_17 : decode cX9_times 17 = .ok (.ishr, 1) := by decide +kernel
theorem dX9_times_18 : decode cX9_times 18 = .ok (.iconst 1, 1) := by decide +kernel
theorem dX9_times_19 : decode cX9_times 19 = .ok (.iand, 1) := by decide +kernel
theorem dX9_times_20 : decode cX9_times 20 = .ok (.iconst 1, 1) := by decide +kernel
theorem dX9_times_21 : decode cX9_times 21 = .ok (.if_icmp .ne 7, 3) := by decide +kernel
theorem dX9_times_24 : decode cX9_times 24 = .ok (.iload_n 2, 1) := by decide +kernel
theorem dX9_times_25 : decode cX9_times 25 = .ok (.iload_n 3, 1) := by decide +kernel
theorem dX9_times_26 : decode cX9_times 26 = .ok (.ixor, 1) := by decide +kernel
theorem dX9_times_27 : decode cX9_times 27 = .ok (.istore_n 2, 1) := by decide +kernel
theorem dX9_times_28 : decode cX9_times 28 = .ok (.iload_n 3, 1) := by decide +kernel
theorem dX9_times_29 : decode cX9_times 29 = .ok (.invokestatic 238, 3) := by decide +kernel
theorem dX9_times_32 : decode cX9_times 32 = .ok (.istore_n 3, 1) := by decide +kernel
theorem dX9_times_33 : decode cX9_times 33 = .ok (.iinc 4 1, 3) := by decide +kernel
theorem dX9_times_36 : decode cX9_times 36 = .ok (.goto (-29), 3) := by decide +kernel
theorem dX9_times_39 : decode cX9_times 39 = .ok (.iload_n 2, 1) := by decide +kernel
theorem dX9_times_40 : decode cX9_times 40 = .ok (.ireturn, 1) := by decide +kernel
theorem dX9_makeBox_0 : decode cX9_makeBox 0 = .ok (.iconst 0, 1) := by decide +kernel
theorem dX9_makeBox_1 : decode cX9_makeBox 1 = .ok (.istore_n 1, 1) := by decide +kernel
theorem dX9_makeBox_2 : decode cX9_makeBox 2 = .ok (.iload_n 1, 1) := by decide +kernel
theorem dX9_makeBox_3 : decode cX9_makeBox 3 = .ok (.sipush 256, 3) := by decide +kernel
theorem dX9_makeBox_6 : decode cX9_makeBox 6 = .ok (.if_icmp .ge 85, 3) := by decide +kernel
theorem dX9_makeBox_9 : decode cX9_makeBox 9 = .ok (.iconst 0, 1) := by decide +kernel
theorem dX9_makeBox_10 : decode cX9_makeBox 10 = .ok (.istore_n 2, 1) := by decide +kernel
theorem dX9_makeBox_11 : decode cX9_makeBox 11 = .ok (.iconst 1, 1) := by decide +kernel
theorem dX9_makeBox_12 : decode cX9_makeBox 12 = .ok (.istore_n 3, 1) := by decide +kernel
theorem dX9_makeBox_13 : decode cX9_makeBox 13 = .ok (.iload_n 3, 1) := by decide +kernel
theorem dX9_makeBox_14 : decode cX9_makeBox 14 = .ok (.sipush 256, 3) := by decide +kernel
theorem dX9_makeBox_17 : decode cX9_makeBox 17 = .ok (.if_icmp .ge 24, 3) := by decide +kernel
theorem dX9_makeBox_20 : decode cX9_makeBox 20 = .ok (.iload_n 1, 1) := by decide +kernel
theorem dX9_makeBox_21 : decode cX9_makeBox 21 = .ok (.ifCond .le 20, 3) := by decide +kernel
theorem dX9_makeBox_24 : decode cX9_makeBox 24 = .ok (.iload_n 1, 1) := by decide +kernel
theorem dX9_makeBox_25 : decode cX9_makeBox 25 = .ok (.iload_n 3, 1) := by decide +kernel
theorem dX9_makeBox_26 : decode cX9_makeBox 26 = .ok (.invokestatic 242, 3) := by decide +kernel
theorem dX9_makeBox_29 : decode cX9_makeBox 29 = .ok (.iconst 1, 1) := by decide +kernel
theorem dX9_makeBox_30 : decode cX9_makeBox 30 = .ok (.if_icmp .ne 5, 3) := by decide +kernel
theorem dX9_makeBox_33 : decode cX9_makeBox 33 = .ok (.iload_n 3, 1) := by decide +kernel
theorem dX9_makeBox_34 : decode cX9_makeBox 34 = .ok (.istore_n 2, 1) := by decide +kernel
theorem dX9_makeBox_35 : decode cX9_makeBox 35 = .ok (.iinc 3 1, 3) := by decide +kernel
theorem dX9_makeBox_38 : decode cX9_makeBox 38 = .ok (.goto (-25), 3) := by decide +kernel
theorem dX9_makeBox_41 : decode cX9_makeBox 41 = .ok (.bipush 99, 2) := by decide +kernel
theorem dX9_makeBox_43 : decode cX9_makeBox 43 = .ok (.istore_n 3, 1) := by decide +kernel
theorem dX9_makeBox_44 : decode cX9_makeBox 44 = .ok (.iconst 0, 1) := by decide +kernel
theorem dX9_makeBox_45 : decode cX9_makeBox 45 = .ok (.istore 4, 2) := by decide +kernel
theorem dX9_makeBox_47 : decode cX9_makeBox 47 = .ok (.iload 4, 2) := by decide +kernel
theorem dX9_makeBox_49 : decode cX9_makeBox 49 = .ok (.iconst 5, 1) := by decide +kernel
theorem dX9_makeBox_50 : decode cX9_makeBox 50 = .ok (.if_icmp .ge 28, 3) := by decide +kernel
theorem dX9_makeBox_53 : decode cX9_makeBox 53 = .ok (.iload_n 3, 1) := by decide +kernel
theorem dX9_makeBox_54 : decode cX9_makeBox 54 = .ok (.iload_n 2, 1) := by decide +kernel
theorem dX9_makeBox_55 : decode cX9_makeBox 55 = .ok (.iload 4, 2) := by decide +kernel
theorem dX9_makeBox_57 : decode cX9_makeBox 57 = .ok (.ishl, 1) := by decide +kernel
theorem dX9_makeBox_58 : decode cX9_makeBox 58 = .ok (.iload_n 2, 1) := by decide +kernel
theorem dX9_makeBox_59 : decode cX9_makeBox 59 = .ok (.bipush 8, 2) := by decide +kernel
theorem dX9_makeBox_61 : decode cX9_makeBox 61 = .ok (.iload 4, 2) := by decide +kernel
theorem dX9_makeBox_63 : decode cX9_makeBox 63 = .ok (.isub, 1) := by decide +kernel
theorem dX9_makeBox_64 : decode cX9_makeBox 64 = .ok (.ishr, 1) := by decide +kernel
theorem dX9_makeBox_65 : decode cX9_makeBox 65 = .ok (.ior, 1) := by decide +kernel
theorem dX9_makeBox_66 : decode cX9_makeBox 66 = .ok (.sipush 255, 3) := by decide +kernel
theorem dX9_makeBox_69 : decode cX9_makeBox 69 = .ok (.iand, 1) := by decide +kernel
theorem dX9_makeBox_70 : decode cX9_makeBox 70 = .ok (.ixor, 1) := by decide +kernel
theorem dX9_makeBox_71 : decode cX9_makeBox 71 = .ok (.istore_n 3, 1) := by decide +kernel
theorem dX9_makeBox_72 : decode cX9_makeBox 72 = .ok (.iinc 4 1, 3) := by decide +kernel
theorem dX9_makeBox_75 : decode cX9_makeBox 75 = .ok (.goto (-28), 3) := by decide +kernel
theorem dX9_makeBox_78 : decode cX9_makeBox 78 = .ok (.aload_n 0, 1) := by decide +kernel
theorem dX9_makeBox_79 : decode cX9_makeBox 79 = .ok (.getfield 210, 3) := by decide +kernel
theorem dX9_makeBox_82 : decode cX9_makeBox 82 = .ok (.iload_n 1, 1) := by decide +kernel
theorem dX9_makeBox_83 : decode cX9_makeBox 83 = .ok (.iload_n 3, 1) := by decide +kernel
theorem dX9_makeBox_84 : decode cX9_makeBox 84 = .ok (.iastore, 1) := by decide +kernel
theorem dX9_makeBox_85 : decode cX9_makeBox 85 = .ok (.iinc 1 1, 3) := by decide +kernel
theorem dX9_makeBox_88 : decode cX9_makeBox 88 = .ok (.goto (-86), 3) := by decide +kernel
theorem dX9_makeBox_91 : decode cX9_makeBox 91 = .ok (.return_, 1) := by decide +kernel
theorem dX9_makeKey_0 : decode cX9_makeKey 0 = .ok (.iconst 0, 1) := by decide +kernel
theorem dX9_makeKey_1 : decode cX9_makeKey 1 = .ok (.istore_n 1, 1) := by decide +kernel
theorem dX9_makeKey_2 : decode cX9_makeKey 2 = .ok (.iload_n 1, 1) := by decide +kernel
theorem dX9_makeKey_3 : decode cX9_makeKey 3 = .ok (.bipush 16, 2) := by decide +kernel
theorem dX9_makeKey_5 : decode cX9_makeKey 5 = .ok (.if_icmp .ge 43, 3) := by decide +kernel
theorem dX9_makeKey_8 : decode cX9_makeKey 8 = .ok (.aload_n 0, 1) := by decide +kernel
theorem dX9_makeKey_9 : decode cX9_makeKey 9 = .ok (.getfield 213, 3) := by decide +kernel
theorem dX9_makeKey_12 : decode cX9_makeKey 12 = .ok (.iload_n 1, 1) := by decide +kernel
theorem dX9_makeKey_13 : decode cX9_makeKey 13 = .ok (.aload_n 0, 1) := by decide +kernel
theorem dX9_makeKey_14 : decode cX9_makeKey 14 = .ok (.getfield 232, 3) := by decide +kernel
theorem dX9_makeKey_17 : decode cX9_makeKey 17 = .ok (.bipush 8, 2) := by decide +kernel
theorem dX9_makeKey_19 : decode cX9_makeKey 19 = .ok (.iload_n 1, 1) := by decide +kernel
theorem dX9_makeKey_20 : decode cX9_makeKey 20 = .ok (.iconst 3, 1) := by decide +kernel
theorem dX9_makeKey_21 : decode cX9_makeKey 21 = .ok (.iand, 1) := by decide +kernel
theorem dX9_makeKey_22 : decode cX9_makeKey 22 = .ok (.imul, 1) := by decide +kernel
theorem dX9_makeKey_23 : decode cX9_makeKey 23 = .ok (.ishr, 1) := by decide +kernel
theorem dX9_makeKey_24 : decode cX9_makeKey 24 = .ok (.bipush 17, 2) := by decide +kernel
theorem dX9_makeKey_26 : decode cX9_makeKey 26 = .ok (.iload_n 1, 1) := by decide +kernel
theorem dX9_makeKey_27 : decode cX9_makeKey 27 = .ok (.imul, 1) := by decide +kernel
theorem dX9_makeKey_28 : decode cX9_makeKey 28 = .ok (.iadd, 1) := by decide +kernel
theorem dX9_makeKey_29 : decode cX9_makeKey 29 = .ok (.bipush 29, 2) := by decide +kernel
theorem dX9_makeKey_31 : decode cX9_makeKey 31 = .ok (.aload_n 0, 1) := by decide +kernel
theorem dX9_makeKey_32 : decode cX9_makeKey 32 = .ok (.getfield 246, 3) := by decide +kernel
theorem dX9_makeKey_35 : decode cX9_makeKey 35 = .ok (.imul, 1) := by decide +kernel
theorem dX9_makeKey_36 : decode cX9_makeKey 36 = .ok (.iadd, 1) := by decide +kernel
theorem dX9_makeKey_37 : decode cX9_makeKey 37 = .ok (.sipush 255, 3) := by decide +kernel
theorem dX9_makeKey_40 : decode cX9_makeKey 40 = .ok (.iand, 1) := by decide +kernel
theorem dX9_makeKey_41 : decode cX9_makeKey 41 = .ok (.iastore, 1) := by decide +kernel
theorem dX9_makeKey_42 : decode cX9_makeKey 42 = .ok (.iinc 1 1, 3) := by decide +kernel
theorem dX9_makeKey_45 : decode cX9_makeKey 45 = .ok (.goto (-43), 3) := by decide +kernel
theorem dX9_makeKey_48 : decode cX9_makeKey 48 = .ok (.iconst 1, 1) := by decide +kernel
theorem dX9_makeKey_49 : decode cX9_makeKey 49 = .ok (.istore_n 1, 1) := by decide +kernel
theorem dX9_makeKey_50 : decode cX9_makeKey 50 = .ok (.bipush 16, 2) := by decide +kernel
theorem dX9_makeKey_52 : decode cX9_makeKey 52 = .ok (.istore_n 2, 1) := by decide +kernel
theorem dX9_makeKey_53 : decode cX9_makeKey 53 = .ok (.iload_n 2, 1) := by decide +kernel
theorem dX9_makeKey_54 : decode cX9_makeKey 54 = .ok (.sipush 176, 3) := by decide +kernel
theorem dX9_makeKey_57 : decode cX9_makeKey 57 = .ok (.if_icmp .ge 106, 3) := by decide +kernel
theorem dX9_makeKey_60 : decode cX9_makeKey 60 = .ok (.iconst 0, 1) := by decide +kernel
theorem dX9_makeKey_61 : decode cX9_makeKey 61 = .ok (.istore_n 3, 1) := by decide +kernel
theorem dX9_makeKey_62 : decode cX9_makeKey 62 = .ok (.iload_n 3, 1) := by decide +kernel
theorem dX9_makeKey_63 : decode cX9_makeKey 63 = .ok (.iconst 4, 1) := by decide +kernel
theorem dX9_makeKey_64 : decode cX9_makeKey 64 = .ok (.if_icmp .ge 81, 3) := by decide +kernel
theorem dX9_makeKey_67 : decode cX9_makeKey 67 = .ok (.aload_n 0, 1) := by decide +kernel
theorem dX9_makeKey_68 : decode cX9_makeKey 68 = .ok (.getfield 213, 3) := by decide +kernel
theorem dX9_makeKey_71 : decode cX9_makeKey 71 = .ok (.iload_n 2, 1) := by decide +kernel
theorem dX9_makeKey_72 : decode cX9_makeKey 72 = .ok (.iconst 4, 1) := by decide +kernel
theorem dX9_makeKey_73 : decode cX9_makeKey 73 = .ok (.isub, 1) := by decide +kernel
theorem dX9_makeKey_74 : decode cX9_makeKey 74 = .ok (.iload_n 3, 1) := by decide +kernel
theorem dX9_makeKey_75 : decode cX9_makeKey 75 = .ok (.iadd, 1) := by decide +kernel
theorem dX9_makeKey_76 : decode cX9_makeKey 76 = .ok (.iaload, 1) := by decide +kernel
theorem dX9_makeKey_77 : decode cX9_makeKey 77 = .ok (.istore 4, 2) := by decide +kernel
theorem dX9_makeKey_79 : decode cX9_makeKey 79 = .ok (.iload_n 2, 1) := by decide +kernel
theorem dX9_makeKey_80 : decode cX9_makeKey 80 = .ok (.bipush 16, 2) := by decide +kernel
theorem dX9_makeKey_82 : decode cX9_makeKey 82 = .ok (.irem, 1) := by decide +kernel
theorem dX9_makeKey_83 : decode cX9_makeKey 83 = .ok (.ifCond .ne 34, 3) := by decide +kernel
theorem dX9_makeKey_86 : decode cX9_makeKey 86 = .ok (.aload_n 0, 1) := by decide +kernel
theorem dX9_makeKey_87 : decode cX9_makeKey 87 = .ok (.getfield 210, 3) := by decide +kernel
theorem dX9_makeKey_90 : decode cX9_makeKey 90 = .ok (.aload_n 0, 1) := by decide +kernel
theorem dX9_makeKey_91 : decode cX9_makeKey 91 = .ok (.getfield 213, 3) := by decide +kernel
theorem dX9_makeKey_94 : decode cX9_makeKey 94 = .ok (.iload_n 2, 1) := by decide +kernel
theorem dX9_makeKey_95 : decode cX9_makeKey 95 = .ok (.iconst 4, 1) := by decide +kernel
theorem dX9_makeKey_96 : decode cX9_makeKey 96 = .ok (.isub, 1) := by decide +kernel
theorem dX9_makeKey_97 : decode cX9_makeKey 97 = .ok (.iload_n 3, 1) := by decide +kernel
theorem dX9_makeKey_98 : decode cX9_makeKey 98 = .ok (.iconst 1, 1) := by decide +kernel
theorem dX9_makeKey_99 : decode cX9_makeKey 99 = .ok (.iadd, 1) := by decide +kernel
theorem dX9_makeKey_100 : decode cX9_makeKey 100 = .ok (.iconst 4, 1) := by decide +kernel
theorem dX9_makeKey_101 : decode cX9_makeKey 101 = .ok (.irem, 1) := by decide +kernel
theorem dX9_makeKey_102 : decode cX9_makeKey 102 = .ok (.iadd, 1) := by decide +kernel
theorem dX9_makeKey_103 : decode cX9_makeKey 103 = .ok (.iaload, 1) := by decide +kernel
theorem dX9_makeKey_104 : decode cX9_makeKey 104 = .ok (.iaload, 1) := by decide +kernel
theorem dX9_makeKey_105 : decode cX9_makeKey 105 = .ok (.iload_n 3, 1) := by decide +kernel
theorem dX9_makeKey_106 : decode cX9_makeKey 106 = .ok (.ifCond .ne 7, 3) := by decide +kernel
theorem dX9_makeKey_109 : decode cX9_makeKey 109 = .ok (.iload_n 1, 1) := by decide +kernel
theorem dX9_makeKey_110 : decode cX9_makeKey 110 = .ok (.goto 4, 3) := by decide +kernel
theorem dX9_makeKey_113 : decode cX9_makeKey 113 = .ok (.iconst 0, 1) := by decide +kernel
theorem dX9_makeKey_114 : decode cX9_makeKey 114 = .ok (.ixor, 1) := by decide +kernel
theorem dX9_makeKey_115 : decode cX9_makeKey 115 = .ok (.istore 4, 2) := by decide +kernel
theorem dX9_makeKey_117 : decode cX9_makeKey 117 = .ok (.aload_n 0, 1) := by decide +kernel
theorem dX9_makeKey_118 : decode cX9_makeKey 118 = .ok (.getfield 213, 3) := by decide +kernel
theorem dX9_makeKey_121 : decode cX9_makeKey 121 = .ok (.iload_n 2, 1) := by decide +kernel
theorem dX9_makeKey_122 : decode cX9_makeKey 122 = .ok (.iload_n 3, 1) := by decide +kernel
theorem dX9_makeKey_123 : decode cX9_makeKey 123 = .ok (.iadd, 1) := by decide +kernel
theorem dX9_makeKey_124 : decode cX9_makeKey 124 = .ok (.aload_n 0, 1) := by decide +kernel
theorem dX9_makeKey_125 : decode cX9_makeKey 125 = .ok (.getfield 213, 3) := by decide +kernel
theorem dX9_makeKey_128 : decode cX9_makeKey 128 = .ok (.iload_n 2, 1) := by decide +kernel
theorem dX9_makeKey_129 : decode cX9_makeKey 129 = .ok (.bipush 16, 2) := by decide +kernel
theorem dX9_makeKey_131 : decode cX9_makeKey 131 = .ok (.isub, 1) := by decide +kernel
theorem dX9_makeKey_132 : decode cX9_makeKey 132 = .ok (.iload_n 3, 1) := by decide +kernel
theorem dX9_makeKey_133 : decode cX9_makeKey 133 = .ok (.iadd, 1) := by decide +kernel
theorem dX9_makeKey_134 : decode cX9_makeKey 134 = .ok (.iaload, 1) := by decide +kernel
theorem dX9_makeKey_135 : decode cX9_makeKey 135 = .ok (.iload 4, 2) := by decide +kernel
theorem dX9_makeKey_137 : decode cX9_makeKey 137 = .ok (.ixor, 1) := by decide +kernel
theorem dX9_makeKey_138 : decode cX9_makeKey 138 = .ok (.iastore, 1) := by decide +kernel
theorem dX9_makeKey_139 : decode cX9_makeKey 139 = .ok (.iinc 3 1, 3) := by decide +kernel
theorem dX9_makeKey_142 : decode cX9_makeKey 142 = .ok (.goto (-80), 3) := by decide +kernel
theorem dX9_makeKey_145 : decode cX9_makeKey 145 = .ok (.iload_n 2, 1) := by decide +kernel
theorem dX9_makeKey_146 : decode cX9_makeKey 146 = .ok (.bipush 16, 2) := by decide +kernel
theorem dX9_makeKey_148 : decode cX9_makeKey 148 = .ok (.irem, 1) := by decide +kernel
theorem dX9_makeKey_149 : decode cX9_makeKey 149 = .ok (.ifCond .ne 8, 3) := by decide +kernel
theorem dX9_makeKey_152 : decode cX9_makeKey 152 = .ok (.iload_n 1, 1) := by decide +kernel
theorem dX9_makeKey_153 : decode cX9_makeKey 153 = .ok (.invokestatic 238, 3) := by decide +kernel
theorem dX9_makeKey_156 : decode cX9_makeKey 156 = .ok (.istore_n 1, 1) := by decide +kernel
theorem dX9_makeKey_157 : decode cX9_makeKey 157 = .ok (.iinc 2 4, 3) := by decide +kernel
theorem dX9_makeKey_160 : decode cX9_makeKey 160 = .ok (.goto (-107), 3) := by decide +kernel
theorem dX9_makeKey_163 : decode cX9_makeKey 163 = .ok (.return_, 1) := by decide +kernel
theorem dX9_encipher_0 : decode cX9_encipher 0 = .ok (.iconst 0, 1) := by decide +kernel
theorem dX9_encipher_1 : decode cX9_encipher 1 = .ok (.istore_n 1, 1) := by decide +kernel
theorem dX9_encipher_2 : decode cX9_encipher 2 = .ok (.iload_n 1, 1) := by decide +kernel
theorem dX9_encipher_3 : decode cX9_encipher 3 = .ok (.bipush 16, 2) := by decide +kernel
theorem dX9_encipher_5 : decode cX9_encipher 5 = .ok (.if_icmp .ge 24, 3) := by decide +kernel
theorem dX9_encipher_8 : decode cX9_encipher 8 = .ok (.aload_n 0, 1) := by decide +kernel
theorem dX9_encipher_9 : decode cX9_encipher 9 = .ok (.getfield 216, 3) := by decide +kernel
theorem dX9_encipher_12 : decode cX9_encipher 12 = .ok (.iload_n 1, 1) := by decide +kernel
theorem dX9_encipher_13 : decode cX9_encipher 13 = .ok (.dup2, 1) := by decide +kernel
theorem dX9_encipher_14 : decode cX9_encipher 14 = .ok (.iaload, 1) := by decide +kernel
theorem dX9_encipher_15 : decode cX9_encipher 15 = .ok (.aload_n 0, 1) := by decide +kernel
theorem dX9_encipher_16 : decode cX9_encipher 16 = .ok (.getfield 213, 3) := by decide +kernel
theorem dX9_encipher_19 : decode cX9_encipher 19 = .ok (.iload_n 1, 1) := by decide +kernel
theorem dX9_encipher_20 : decode cX9_encipher 20 = .ok (.iaload, 1) := by decide +kernel
theorem dX9_encipher_21 : decode cX9_encipher 21 = .ok (.ixor, 1) := by decide +kernel
theorem dX9_encipher_22 : decode cX9_encipher 22 = .ok (.iastore, 1) := by decide +kernel
theorem dX9_encipher_23 : decode cX9_encipher 23 = .ok (.iinc 1 1, 3) := by decide +kernel
theorem dX9_encipher_26 : decode cX9_encipher 26 = .ok (.goto (-24), 3) := by decide +kernel
theorem dX9_encipher_29 : decode cX9_encipher 29 = .ok (.iconst 1, 1) := by decide +kernel
theorem dX9_encipher_30 : decode cX9_encipher 30 = .ok (.istore_n 1, 1) := by decide +kernel
theorem dX9_encipher_31 : decode cX9_encipher 31 = .ok (.iload_n 1, 1) := by decide +kernel
theorem dX9_encipher_32 : decode cX9_encipher 32 = .ok (.bipush 10, 2) := by decide +kernel
theorem dX9_encipher_34 : decode cX9_encipher 34 = .ok (.if_icmp .gt 181, 3) := by decide +kernel
theorem dX9_encipher_37 : decode cX9_encipher 37 = .ok (.iconst 0, 1) := by decide +kernel
theorem dX9_encipher_38 : decode cX9_encipher 38 = .ok (.istore_n 2, 1) := by decide +kernel
theorem dX9_encipher_39 : decode cX9_encipher 39 = .ok (.iload_n 2, 1) := by decide +kernel
theorem dX9_encipher_40 : decode cX9_encipher 40 = .ok (.bipush 16, 2) := by decide +kernel
theorem dX9_encipher_42 : decode cX9_encipher 42 = .ok (.if_icmp .ge 35, 3) := by decide +kernel
theorem dX9_encipher_45 : decode cX9_encipher 45 = .ok (.aload_n 0, 1) := by decide +kernel
theorem dX9_encipher_46 : decode cX9_encipher 46 = .ok (.getfield 219, 3) := by decide +kernel
theorem dX9_encipher_49 : decode cX9_encipher 49 = .ok (.iload_n 2, 1) := by decide +kernel
theorem dX9_encipher_50 : decode cX9_encipher 50 = .ok (.aload_n 0, 1) := by decide +kernel
theorem dX9_encipher_51 : decode cX9_encipher 51 = .ok (.getfield 210, 3) := by decide +kernel
theorem dX9_encipher_54 : decode cX9_encipher 54 = .ok (.aload_n 0, 1) := by decide +kernel
theorem dX9_encipher_55 : decode cX9_encipher 55 = .ok (.getfield 216, 3) := by decide +kernel
theorem dX9_encipher_58 : decode cX9_encipher 58 = .ok (.iload_n 2, 1) := by decide +kernel
theorem dX9_encipher_59 : decode cX9_encipher 59 = .ok (.iconst 4, 1) := by decide +kernel
theorem dX9_encipher_60 : decode cX9_encipher 60 = .ok (.iload_n 2, 1) := by decide +kernel
theorem dX9_encipher_61 : decode cX9_encipher 61 = .ok (.iconst 4, 1) := by decide +kernel
theorem dX9_encipher_62 : decode cX9_encipher 62 = .ok (.irem, 1) := by decide +kernel
theorem dX9_encipher_63 : decode cX9_encipher 63 = .ok (.imul, 1) := by decide +kernel
theorem dX9_encipher_64 : decode cX9_encipher 64 = .ok (.iadd, 1) := by decide +kernel
theorem dX9_encipher_65 : decode cX9_encipher 65 = .ok (.bipush 16, 2) := by decide +kernel
theorem dX9_encipher_67 : decode cX9_encipher 67 = .ok (.irem, 1) := by decide +kernel
theorem dX9_encipher_68 : decode cX9_encipher 68 = .ok (.iaload, 1) := by decide +kernel
theorem dX9_encipher_69 : decode cX9_encipher 69 = .ok (.iaload, 1) := by decide +kernel
theorem dX9_encipher_70 : decode cX9_encipher 70 = .ok (.iastore, 1) := by decide +kernel
theorem dX9_encipher_71 : decode cX9_encipher 71 = .ok (.iinc 2 1, 3) := by decide +kernel
theorem dX9_encipher_74 : decode cX9_encipher 74 = .ok (.goto (-35), 3) := by decide +kernel
theorem dX9_encipher_77 : decode cX9_encipher 77 = .ok (.iconst 0, 1) := by decide +kernel
theorem dX9_encipher_78 : decode cX9_encipher 78 = .ok (.istore_n 2, 1) := by decide +kernel
theorem dX9_encipher_79 : decode cX9_encipher 79 = .ok (.iload_n 2, 1) := by decide +kernel
theorem dX9_encipher_80 : decode cX9_encipher 80 = .ok (.bipush 16, 2) := by decide +kernel
theorem dX9_encipher_82 : decode cX9_encipher 82 = .ok (.if_icmp .ge 127, 3) := by decide +kernel
theorem dX9_encipher_85 : decode cX9_encipher 85 = .ok (.iload_n 2, 1) := by decide +kernel
theorem dX9_encipher_86 : decode cX9_encipher 86 = .ok (.iconst 4, 1) := by decide +kernel
theorem dX9_encipher_87 : decode cX9_encipher 87 = .ok (.idiv, 1) := by decide +kernel
theorem dX9_encipher_88 : decode cX9_encipher 88 = .ok (.iconst 4, 1) := by decide +kernel
theorem dX9_encipher_89 : decode cX9_encipher 89 = .ok (.imul, 1) := by decide +kernel
theorem dX9_encipher_90 : decode cX9_encipher 90 = .ok (.istore_n 3, 1) := by decide +kernel
theorem dX9_encipher_91 : decode cX9_encipher 91 = .ok (.iload_n 2, 1) := by decide +kernel
theorem dX9_encipher_92 : decode cX9_encipher 92 = .ok (.iconst 4, 1) := by decide +kernel
theorem dX9_encipher_93 : decode cX9_encipher 93 = .ok (.irem, 1) := by decide +kernel
theorem dX9_encipher_94 : decode cX9_encipher 94 = .ok (.istore 4, 2) := by decide +kernel
theorem dX9_encipher_96 : decode cX9_encipher 96 = .ok (.aload_n 0, 1) := by decide +kernel
theorem dX9_encipher_97 : decode cX9_encipher 97 = .ok (.getfield 219, 3) := by decide +kernel
theorem dX9_encipher_100 : decode cX9_encipher 100 = .ok (.iload_n 2, 1) := by decide +kernel
theorem dX9_encipher_101 : decode cX9_encipher 101 = .ok (.iaload, 1) := by decide +kernel
theorem dX9_encipher_102 : decode cX9_encipher 102 = .ok (.istore 5, 2) := by decide +kernel
theorem dX9_encipher_104 : decode cX9_encipher 104 = .ok (.iload_n 1, 1) := by decide +kernel
theorem dX9_encipher_105 : decode cX9_encipher 105 = .ok (.bipush 10, 2) := by decide +kernel
theorem dX9_encipher_107 : decode cX9_encipher 107 = .ok (.if_icmp .ge 76, 3) := by decide +kernel
theorem dX9_encipher_110 : decode cX9_encipher 110 = .ok (.aload_n 0, 1) := by decide +kernel
theorem dX9_encipher_111 : decode cX9_encipher 111 = .ok (.getfield 219, 3) := by decide +kernel
theorem dX9_encipher_114 : decode cX9_encipher 114 = .ok (.iload_n 3, 1) := by decide +kernel
theorem dX9_encipher_115 : decode cX9_encipher 115 = .ok (.iload 4, 2) := by decide +kernel
theorem dX9_encipher_117 : decode cX9_encipher 117 = .ok (.iadd, 1) := by decide +kernel
theorem dX9_encipher_118 : decode cX9_encipher 118 = .ok (.iaload, 1) := by decide +kernel
theorem dX9_encipher_119 : decode cX9_encipher 119 = .ok (.invokestatic 238, 3) := by decide +kernel
theorem dX9_encipher_122 : decode cX9_encipher 122 = .ok (.aload_n 0, 1) := by decide +kernel
theorem dX9_encipher_123 : decode cX9_encipher 123 = .ok (.getfield 219, 3) := by decide +kernel
theorem dX9_encipher_126 : decode cX9_encipher 126 = .ok (.iload_n 3, 1) := by decide +kernel
theorem dX9_encipher_127 : decode cX9_encipher 127 = .ok (.iload 4, 2) := by decide +kernel
theorem dX9_encipher_129 : decode cX9_encipher 129 = .ok (.iconst 1, 1) := by decide +kernel
theorem dX9_encipher_130 : decode cX9_encipher 130 = .ok (.iadd, 1) := by decide +kernel
theorem dX9_encipher_131 : decode cX9_encipher 131 = .ok (.iconst 4, 1) := by decide +kernel
theorem dX9_encipher_132 : decode cX9_encipher 132 = .ok (.irem, 1) := by decide +kernel
theorem dX9_encipher_133 : decode cX9_encipher 133 = .ok (.iadd, 1) := by decide +kernel
theorem dX9_encipher_134 : decode cX9_encipher 134 = .ok (.iaload, 1) := by decide +kernel
theorem dX9_encipher_135 : decode cX9_encipher 135 = .ok (.invokestatic 238, 3) := by decide +kernel
theorem dX9_encipher_138 : decode cX9_encipher 138 = .ok (.ixor, 1) := by decide +kernel
theorem dX9_encipher_139 : decode cX9_encipher 139 = .ok (.aload_n 0, 1) := by decide +kernel
theorem dX9_encipher_140 : decode cX9_encipher 140 = .ok (.getfield 219, 3) := by decide +kernel
theorem dX9_encipher_143 : decode cX9_encipher 143 = .ok (.iload_n 3, 1) := by decide +kernel
theorem dX9_encipher_144 : decode cX9_encipher 144 = .ok (.iload 4, 2) := by decide +kernel
theorem dX9_encipher_146 : decode cX9_encipher 146 = .ok (.iconst 1, 1) := by decide +kernel
theorem dX9_encipher_147 : decode cX9_encipher 147 = .ok (.iadd, 1) := by decide +kernel
theorem dX9_encipher_148 : decode cX9_encipher 148 = .ok (.iconst 4, 1) := by decide +kernel
theorem dX9_encipher_149 : decode cX9_encipher 149 = .ok (.irem, 1) := by decide +kernel
theorem dX9_encipher_150 : decode cX9_encipher 150 = .ok (.iadd, 1) := by decide +kernel
theorem dX9_encipher_151 : decode cX9_encipher 151 = .ok (.iaload, 1) := by decide +kernel
theorem dX9_encipher_152 : decode cX9_encipher 152 = .ok (.ixor, 1) := by decide +kernel
theorem dX9_encipher_153 : decode cX9_encipher 153 = .ok (.aload_n 0, 1) := by decide +kernel
theorem dX9_encipher_154 : decode cX9_encipher 154 = .ok (.getfield 219, 3) := by decide +kernel
theorem dX9_encipher_157 : decode cX9_encipher 157 = .ok (.iload_n 3, 1) := by decide +kernel
theorem dX9_encipher_158 : decode cX9_encipher 158 = .ok (.iload 4, 2) := by decide +kernel
theorem dX9_encipher_160 : decode cX9_encipher 160 = .ok (.iconst 2, 1) := by decide +kernel
theorem dX9_encipher_161 : decode cX9_encipher 161 = .ok (.iadd, 1) := by decide +kernel
theorem dX9_encipher_162 : decode cX9_encipher 162 = .ok (.iconst 4, 1) := by decide +kernel
theorem dX9_encipher_163 : decode cX9_encipher 163 = .ok (.irem, 1) := by decide +kernel
theorem dX9_encipher_164 : decode cX9_encipher 164 = .ok (.iadd, 1) := by decide +kernel
theorem dX9_encipher_165 : decode cX9_encipher 165 = .ok (.iaload, 1) := by decide +kernel
theorem dX9_encipher_166 : decode cX9_encipher 166 = .ok (.ixor, 1) := by decide +kernel
theorem dX9_encipher_167 : decode cX9_encipher 167 = .ok (.aload_n 0, 1) := by decide +kernel
theorem dX9_encipher_168 : decode cX9_encipher 168 = .ok (.getfield 219, 3) := by decide +kernel
theorem dX9_encipher_171 : decode cX9_encipher 171 = .ok (.iload_n 3, 1) := by decide +kernel
theorem dX9_encipher_172 : decode cX9_encipher 172 = .ok (.iload 4, 2) := by decide +kernel
theorem dX9_encipher_174 : decode cX9_encipher 174 = .ok (.iconst 3, 1) := by decide +kernel
theorem dX9_encipher_175 : decode cX9_encipher 175 = .ok (.iadd, 1) := by decide +kernel
theorem dX9_encipher_176 : decode cX9_encipher 176 = .ok (.iconst 4, 1) := by decide +kernel
theorem dX9_encipher_177 : decode cX9_encipher 177 = .ok (.irem, 1) := by decide +kernel
theorem dX9_encipher_178 : decode cX9_encipher 178 = .ok (.iadd, 1) := by decide +kernel
theorem dX9_encipher_179 : decode cX9_encipher 179 = .ok (.iaload, 1) := by decide +kernel
theorem dX9_encipher_180 : decode cX9_encipher 180 = .ok (.ixor, 1) := by decide +kernel
theorem dX9_encipher_181 : decode cX9_encipher 181 = .ok (.istore 5, 2) := by decide +kernel
theorem dX9_encipher_183 : decode cX9_encipher 183 = .ok (.aload_n 0, 1) := by decide +kernel
theorem dX9_encipher_184 : decode cX9_encipher 184 = .ok (.getfield 216, 3) := by decide +kernel
theorem dX9_encipher_187 : decode cX9_encipher 187 = .ok (.iload_n 2, 1) := by decide +kernel
theorem dX9_encipher_188 : decode cX9_encipher 188 = .ok (.iload 5, 2) := by decide +kernel
theorem dX9_encipher_190 : decode cX9_encipher 190 = .ok (.aload_n 0, 1) := by decide +kernel
theorem dX9_encipher_191 : decode cX9_encipher 191 = .ok (.getfield 213, 3) := by decide +kernel
theorem dX9_encipher_194 : decode cX9_encipher 194 = .ok (.bipush 16, 2) := by decide +kernel
theorem dX9_encipher_196 : decode cX9_encipher 196 = .ok (.iload_n 1, 1) := by decide +kernel
theorem dX9_encipher_197 : decode cX9_encipher 197 = .ok (.imul, 1) := by decide +kernel
theorem dX9_encipher_198 : decode cX9_encipher 198 = .ok (.iload_n 2, 1) := by decide +kernel
theorem dX9_encipher_199 : decode cX9_encipher 199 = .ok (.iadd, 1) := by decide +kernel
theorem dX9_encipher_200 : decode cX9_encipher 200 = .ok (.iaload, 1) := by decide +kernel
theorem dX9_encipher_201 : decode cX9_encipher 201 = .ok (.ixor, 1) := by decide +kernel
theorem dX9_encipher_202 : decode cX9_encipher 202 = .ok (.iastore, 1) := by decide +kernel
theorem dX9_encipher_203 : decode cX9_encipher 203 = .ok (.iinc 2 1, 3) := by decide +kernel
theorem dX9_encipher_206 : decode cX9_encipher 206 = .ok (.goto (-127), 3) := by decide +kernel
theorem dX9_encipher_209 : decode cX9_encipher 209 = .ok (.iinc 1 1, 3) := by decide +kernel
theorem dX9_encipher_212 : decode cX9_encipher 212 = .ok (.goto (-181), 3) := by decide +kernel
theorem dX9_encipher_215 : decode cX9_encipher 215 = .ok (.return_, 1) := by decide +kernel
theorem dX9_makeStream_0 : decode cX9_makeStream 0 = .ok (.aload_n 0, 1) := by decide +kernel
theorem dX9_makeStream_1 : decode cX9_makeStream 1 = .ok (.invokevirtual 249, 3) := by decide +kernel
theorem dX9_makeStream_4 : decode cX9_makeStream 4 = .ok (.iconst 0, 1) := by decide +kernel
theorem dX9_makeStream_5 : decode cX9_makeStream 5 = .ok (.istore 5, 2) := by decide +kernel
theorem dX9_makeStream_7 : decode cX9_makeStream 7 = .ok (.bipush 16, 2) := by decide +kernel
theorem dX9_makeStream_9 : decode cX9_makeStream 9 = .ok (.iload 5, 2) := by decide +kernel
theorem dX9_makeStream_11 : decode cX9_makeStream 11 = .ok (.imul, 1) := by decide +kernel
theorem dX9_makeStream_12 : decode cX9_makeStream 12 = .ok (.iload 4, 2) := by decide +kernel
theorem dX9_makeStream_14 : decode cX9_makeStream 14 = .ok (.if_icmp .ge 138, 3) := by decide +kernel
theorem dX9_makeStream_17 : decode cX9_makeStream 17 = .ok (.iconst 0, 1) := by decide +kernel
theorem dX9_makeStream_18 : decode cX9_makeStream 18 = .ok (.istore 6, 2) := by decide +kernel
theorem dX9_makeStream_20 : decode cX9_makeStream 20 = .ok (.iload 6, 2) := by decide +kernel
theorem dX9_makeStream_22 : decode cX9_makeStream 22 = .ok (.bipush 16, 2) := by decide +kernel
theorem dX9_makeStream_24 : decode cX9_makeStream 24 = .ok (.if_icmp .ge 82, 3) := by decide +kernel
theorem dX9_makeStream_27 : decode cX9_makeStream 27 = .ok (.aload_n 0, 1) := by decide +kernel
theorem dX9_makeStream_28 : decode cX9_makeStream 28 = .ok (.getfield 216, 3) := by decide +kernel
theorem dX9_makeStream_31 : decode cX9_makeStream 31 = .ok (.iload 6, 2) := by decide +kernel
theorem dX9_makeStream_33 : decode cX9_makeStream 33 = .ok (.iload 6, 2) := by decide +kernel
theorem dX9_makeStream_35 : decode cX9_makeStream 35 = .ok (.iconst 4, 1) := by decide +kernel
theorem dX9_makeStream_36 : decode cX9_makeStream 36 = .ok (.if_icmp .ge 20, 3) := by decide +kernel
theorem dX9_makeStream_39 : decode cX9_makeStream 39 = .ok (.iload_n 3, 1) := by decide +kernel
theorem dX9_makeStream_40 : decode cX9_makeStream 40 = .ok (.bipush 24, 2) := by decide +kernel
theorem dX9_makeStream_42 : decode cX9_makeStream 42 = .ok (.bipush 8, 2) := by decide +kernel
theorem dX9_makeStream_44 : decode cX9_makeStream 44 = .ok (.iload 6, 2) := by decide +kernel
theorem dX9_makeStream_46 : decode cX9_makeStream 46 = .ok (.imul, 1) := by decide +kernel
theorem dX9_makeStream_47 : decode cX9_makeStream 47 = .ok (.isub, 1) := by decide +kernel
theorem dX9_makeStream_48 : decode cX9_makeStream 48 = .ok (.ishr, 1) := by decide +kernel
theorem dX9_makeStream_49 : decode cX9_makeStream 49 = .ok (.sipush 255, 3) := by decide +kernel
theorem dX9_makeStream_52 : decode cX9_makeStream 52 = .ok (.iand, 1) := by decide +kernel
theorem dX9_makeStream_53 : decode cX9_makeStream 53 = .ok (.goto 46, 3) := by decide +kernel
theorem dX9_makeStream_56 : decode cX9_makeStream 56 = .ok (.iload 6, 2) := by decide +kernel
theorem dX9_makeStream_58 : decode cX9_makeStream 58 = .ok (.iconst 4, 1) := by decide +kernel
theorem dX9_makeStream_59 : decode cX9_makeStream 59 = .ok (.if_icmp .ne 14, 3) := by decide +kernel
theorem dX9_makeStream_62 : decode cX9_makeStream 62 = .ok (.bipush 8, 2) := by decide +kernel
theorem dX9_makeStream_64 : decode cX9_makeStream 64 = .ok (.iload_n 2, 1) := by decide +kernel
theorem dX9_makeStream_65 : decode cX9_makeStream 65 = .ok (.imul, 1) := by decide +kernel
theorem dX9_makeStream_66 : decode cX9_makeStream 66 = .ok (.iconst 4, 1) := by decide +kernel
theorem dX9_makeStream_67 : decode cX9_makeStream 67 = .ok (.iload_n 1, 1) := by decide +kernel
theorem dX9_makeStream_68 : decode cX9_makeStream 68 = .ok (.imul, 1) := by decide +kernel
theorem dX9_makeStream_69 : decode cX9_makeStream 69 = .ok (.iadd, 1) := by decide +kernel
theorem dX9_makeStream_70 : decode cX9_makeStream 70 = .ok (.goto 29, 3) := by decide +kernel
theorem dX9_makeStream_73 : decode cX9_makeStream 73 = .ok (.iload 6, 2) := by decide +kernel
theorem dX9_makeStream_75 : decode cX9_makeStream 75 = .ok (.bipush 12, 2) := by decide +kernel
