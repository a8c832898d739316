theorem dX7_takeEntries_39 : decode cX7_takeEntries 39 = .ok (.iconst 1, 1) := by decide +kernel
theorem dX7_takeEntries_40 : decode cX7_takeEntries 40 = .ok (.goto 4, 3) := by decide +kernel
theorem dX7_takeEntries_43 : decode cX7_takeEntries 43 = .ok (.iconst 0, 1) := by decide +kernel
theorem dX7_takeEntries_44 : decode cX7_takeEntries 44 = .ok (.istore 6, 2) := by decide +kernel
theorem dX7_takeEntries_46 : decode cX7_takeEntries 46 = .ok (.iload 5, 2) := by decide +kernel
theorem dX7_takeEntries_48 : decode cX7_takeEntries 48 = .ok (.aload_n 0, 1) := by decide +kernel
theorem dX7_takeEntries_49 : decode cX7_takeEntries 49 = .ok (.getfield 37, 3) := by decide +kernel
theorem dX7_takeEntries_52 : decode cX7_takeEntries 52 = .ok (.if_icmp .ge 69, 3) := by decide +kernel
theorem dX7_takeEntries_55 : decode cX7_takeEntries 55 = .ok (.aload_n 0, 1) := by decide +kernel
theorem dX7_takeEntries_56 : decode cX7_takeEntries 56 = .ok (.iload 5, 2) := by decide +kernel
theorem dX7_takeEntries_58 : decode cX7_takeEntries 58 = .ok (.invokevirtual 59, 3) := by decide +kernel
theorem dX7_takeEntries_61 : decode cX7_takeEntries 61 = .ok (.getfield 156, 3) := by decide +kernel
theorem dX7_takeEntries_64 : decode cX7_takeEntries 64 = .ok (.ifCond .ne 57, 3) := by decide +kernel
theorem dX7_takeEntries_67 : decode cX7_takeEntries 67 = .ok (.iload 6, 2) := by decide +kernel
theorem dX7_takeEntries_69 : decode cX7_takeEntries 69 = .ok (.ifCond .eq 7, 3) := by decide +kernel
theorem dX7_takeEntries_72 : decode cX7_takeEntries 72 = .ok (.iconst 0, 1) := by decide +kernel
theorem dX7_takeEntries_73 : decode cX7_takeEntries 73 = .ok (.goto 10, 3) := by decide +kernel
theorem dX7_takeEntries_76 : decode cX7_takeEntries 76 = .ok (.aload_n 1, 1) := by decide +kernel
theorem dX7_takeEntries_77 : decode cX7_takeEntries 77 = .ok (.iload_n 3, 1) := by decide +kernel
theorem dX7_takeEntries_78 : decode cX7_takeEntries 78 = .ok (.iconst 1, 1) := by decide +kernel
theorem dX7_takeEntries_79 : decode cX7_takeEntries 79 = .ok (.iadd, 1) := by decide +kernel
theorem dX7_takeEntries_80 : decode cX7_takeEntries 80 = .ok (.invokevirtual 140, 3) := by decide +kernel
theorem dX7_takeEntries_83 : decode cX7_takeEntries 83 = .ok (.istore 7, 2) := by decide +kernel
theorem dX7_takeEntries_85 : decode cX7_takeEntries 85 = .ok (.iload 6, 2) := by decide +kernel
theorem dX7_takeEntries_87 : decode cX7_takeEntries 87 = .ok (.ifCond .eq 9, 3) := by decide +kernel
theorem dX7_takeEntries_90 : decode cX7_takeEntries 90 = .ok (.sipush 240, 3) := by decide +kernel
theorem dX7_takeEntries_93 : decode cX7_takeEntries 93 = .ok (.goto 10, 3) := by decide +kernel
theorem dX7_takeEntries_96 : decode cX7_takeEntries 96 = .ok (.aload_n 1, 1) := by decide +kernel
theorem dX7_takeEntries_97 : decode cX7_takeEntries 97 = .ok (.iload_n 3, 1) := by decide +kernel
theorem dX7_takeEntries_98 : decode cX7_takeEntries 98 = .ok (.iconst 2, 1) := by decide +kernel
theorem dX7_takeEntries_99 : decode cX7_takeEntries 99 = .ok (.iadd, 1) := by decide +kernel
theorem dX7_takeEntries_100 : decode cX7_takeEntries 100 = .ok (.invokevirtual 140, 3) := by decide +kernel
theorem dX7_takeEntries_103 : decode cX7_takeEntries 103 = .ok (.istore 8, 2) := by decide +kernel
theorem dX7_takeEntries_105 : decode cX7_takeEntries 105 = .ok (.aload_n 0, 1) := by decide +kernel
theorem dX7_takeEntries_106 : decode cX7_takeEntries 106 = .ok (.aload_n 0, 1) := by decide +kernel
theorem dX7_takeEntries_107 : decode cX7_takeEntries 107 = .ok (.iload 5, 2) := by decide +kernel
theorem dX7_takeEntries_109 : decode cX7_takeEntries 109 = .ok (.invokevirtual 59, 3) := by decide +kernel
theorem dX7_takeEntries_112 : decode cX7_takeEntries 112 = .ok (.iload 7, 2) := by decide +kernel
theorem dX7_takeEntries_114 : decode cX7_takeEntries 114 = .ok (.iload 8, 2) := by decide +kernel
theorem dX7_takeEntries_116 : decode cX7_takeEntries 116 = .ok (.iconst 1, 1) := by decide +kernel
theorem dX7_takeEntries_117 : decode cX7_takeEntries 117 = .ok (.iadd, 1) := by decide +kernel
theorem dX7_takeEntries_118 : decode cX7_takeEntries 118 = .ok (.invokevirtual 63, 3) := by decide +kernel
theorem dX7_takeEntries_121 : decode cX7_takeEntries 121 = .ok (.iload_n 3, 1) := by decide +kernel
theorem dX7_takeEntries_122 : decode cX7_takeEntries 122 = .ok (.iload 6, 2) := by decide +kernel
theorem dX7_takeEntries_124 : decode cX7_takeEntries 124 = .ok (.ifCond .eq 7, 3) := by decide +kernel
theorem dX7_takeEntries_127 : decode cX7_takeEntries 127 = .ok (.iconst 1, 1) := by decide +kernel
theorem dX7_takeEntries_128 : decode cX7_takeEntries 128 = .ok (.goto 4, 3) := by decide +kernel
theorem dX7_takeEntries_131 : decode cX7_takeEntries 131 = .ok (.iconst 3, 1) := by decide +kernel
theorem dX7_takeEntries_132 : decode cX7_takeEntries 132 = .ok (.iadd, 1) := by decide +kernel
theorem dX7_takeEntries_133 : decode cX7_takeEntries 133 = .ok (.istore_n 3, 1) := by decide +kernel
theorem dX7_takeEntries_134 : decode cX7_takeEntries 134 = .ok (.iinc 4 1, 3) := by decide +kernel
theorem dX7_takeEntries_137 : decode cX7_takeEntries 137 = .ok (.goto (-130), 3) := by decide +kernel
theorem dX7_takeEntries_140 : decode cX7_takeEntries 140 = .ok (.return_, 1) := by decide +kernel
set_option maxRecDepth 20000 in
theorem ggX7_confirm_X5_cell : GoodIn wsX7_confirm wsX5_cell := goodIn_r _ [7, 8, 30, 31, 32, 33, 34, 35] (by decide +kernel) (by decide +kernel)
set_option maxRecDepth 20000 in
theorem gX7_confirm_X5_cell : GoodIn wsX7_confirm (wsV RX7 166 RX5 yX5_cell wsX5_cell) := goodIn_app (goodIn_of _ (by decide +kernel)) ggX7_confirm_X5_cell
set_option maxRecDepth 20000 in
theorem ggX7_confirm_X4_confirmByte : GoodIn wsX7_confirm wsX4_confirmByte := goodIn_r _ [13, 14, 15, 16, 17, 12, 18, 19, 20, 21, 22, 23, 24, 25, 26, 27, 28, 29, 51, 52, 53, 54, 55, 56, 57, 58, 59, 60, 61, 62, 63, 64, 65] (by decide +kernel) (by decide +kernel)
set_option maxRecDepth 20000 in
theorem gX7_confirm_X4_confirmByte : GoodIn wsX7_confirm (wsV RX7 169 RX4 yX4_confirmByte wsX4_confirmByte) := goodIn_app (goodIn_of _ (by decide +kernel)) ggX7_confirm_X4_confirmByte
theorem dX7_confirm_0 : decode cX7_confirm 0 = .ok (.aload_n 1, 1) := by decide +kernel
theorem dX7_confirm_1 : decode cX7_confirm 1 = .ok (.iconst 1, 1) := by decide +kernel
theorem dX7_confirm_2 : decode cX7_confirm 2 = .ok (.putfield 156, 3) := by decide +kernel
theorem dX7_confirm_5 : decode cX7_confirm 5 = .ok (.aload_n 0, 1) := by decide +kernel
theorem dX7_confirm_6 : decode cX7_confirm 6 = .ok (.dup, 1) := by decide +kernel
theorem dX7_confirm_7 : decode cX7_confirm 7 = .ok (.getfield 40, 3) := by decide +kernel
theorem dX7_confirm_10 : decode cX7_confirm 10 = .ok (.aload_n 1, 1) := by decide +kernel
theorem dX7_confirm_11 : decode cX7_confirm 11 = .ok (.getfield 76, 3) := by decide +kernel
theorem dX7_confirm_14 : decode cX7_confirm 14 = .ok (.isub, 1) := by decide +kernel
theorem dX7_confirm_15 : decode cX7_confirm 15 = .ok (.putfield 40, 3) := by decide +kernel
theorem dX7_confirm_18 : decode cX7_confirm 18 = .ok (.aload_n 1, 1) := by decide +kernel
theorem dX7_confirm_19 : decode cX7_confirm 19 = .ok (.iconst 0, 1) := by decide +kernel
theorem dX7_confirm_20 : decode cX7_confirm 20 = .ok (.putfield 76, 3) := by decide +kernel
theorem dX7_confirm_23 : decode cX7_confirm 23 = .ok (.iconst 0, 1) := by decide +kernel
theorem dX7_confirm_24 : decode cX7_confirm 24 = .ok (.istore_n 2, 1) := by decide +kernel
theorem dX7_confirm_25 : decode cX7_confirm 25 = .ok (.iload_n 2, 1) := by decide +kernel
theorem dX7_confirm_26 : decode cX7_confirm 26 = .ok (.aload_n 1, 1) := by decide +kernel
theorem dX7_confirm_27 : decode cX7_confirm 27 = .ok (.getfield 82, 3) := by decide +kernel
theorem dX7_confirm_30 : decode cX7_confirm 30 = .ok (.if_icmp .ge 21, 3) := by decide +kernel
theorem dX7_confirm_33 : decode cX7_confirm 33 = .ok (.aload_n 0, 1) := by decide +kernel
theorem dX7_confirm_34 : decode cX7_confirm 34 = .ok (.getfield 29, 3) := by decide +kernel
theorem dX7_confirm_37 : decode cX7_confirm 37 = .ok (.aload_n 1, 1) := by decide +kernel
theorem dX7_confirm_38 : decode cX7_confirm 38 = .ok (.iload_n 2, 1) := by decide +kernel
theorem dX7_confirm_39 : decode cX7_confirm 39 = .ok (.invokevirtual 166, 3) := by decide +kernel
theorem dX7_confirm_42 : decode cX7_confirm 42 = .ok (.invokevirtual 169, 3) := by decide +kernel
theorem dX7_confirm_45 : decode cX7_confirm 45 = .ok (.iinc 2 1, 3) := by decide +kernel
theorem dX7_confirm_48 : decode cX7_confirm 48 = .ok (.goto (-23), 3) := by decide +kernel
theorem dX7_confirm_51 : decode cX7_confirm 51 = .ok (.return_, 1) := by decide +kernel
set_option maxRecDepth 20000 in
theorem ggX8_init_X2_init : GoodIn wsX8_init wsX2_init := goodIn_r _ [26, 27, 2, 3, 4, 28, 29, 30, 113, 114, 115] (by decide +kernel) (by decide +kernel)
set_option maxRecDepth 20000 in
theorem gX8_init_X2_init_n25 : GoodIn wsX8_init (wsX2_init) := ggX8_init_X2_init
set_option maxRecDepth 20000 in
theorem ggX8_init_X2_setKey : GoodIn wsX8_init wsX2_setKey := goodIn_r _ [34, 28, 113, 114, 115] (by decide +kernel) (by decide +kernel)
set_option maxRecDepth 20000 in
theorem gX8_init_X2_setKey : GoodIn wsX8_init (wsV RX8 30 RX2 yX2_setKey wsX2_setKey) := goodIn_app (goodIn_of _ (by decide +kernel)) ggX8_init_X2_setKey
set_option maxRecDepth 20000 in
theorem ggX8_init_X7_init : GoodIn wsX8_init wsX7_init := goodIn_r _ [37, 38, 2, 3, 39, 40, 41, 42, 43, 44, 45, 46, 47, 48, 49, 50, 51, 52, 4, 53, 54, 55, 56, 57, 58, 59, 60, 61, 62, 63, 64, 65, 116, 117, 118, 119, 120, 121, 122, 123, 124, 125, 126, 127, 128, 129, 130, 148, 149, 150, 151, 152, 153, 154, 155, 156, 157, 158, 159, 160, 161, 162, 163, 164, 165, 166, 167, 168] (by decide +kernel) (by decide +kernel)
set_option maxRecDepth 20000 in
theorem gX8_init_X7_init : GoodIn wsX8_init (wsX7_init) := ggX8_init_X7_init
set_option maxRecDepth 20000 in
theorem ggX8_init_X6_init : GoodIn wsX8_init wsX6_init := goodIn_r _ [68, 69, 2, 3, 70, 71, 72, 73, 74, 75, 76, 47, 48, 77, 78, 79, 80, 4, 81, 82, 83, 84, 85, 62, 63, 64, 65, 131, 132, 133, 134, 135, 136, 137, 138, 139, 140, 141, 142, 143, 169, 170, 171, 172, 173, 174, 175, 176, 177, 178, 179, 180, 181, 163, 164, 165, 166, 167, 168] (by decide +kernel) (by decide +kernel)
set_option maxRecDepth 20000 in
theorem gX8_init_X6_init : GoodIn wsX8_init (wsX6_init) := ggX8_init_X6_init
set_option maxRecDepth 20000 in
theorem ggX8_init_X1_init : GoodIn wsX8_init wsX1_init := goodIn_r _ [87, 88, 2, 3, 89, 90, 91, 92, 93, 94, 95, 4, 96, 182, 183, 144, 145, 146, 147] (by decide +kernel) (by decide +kernel)
set_option maxRecDepth 20000 in
theorem gX8_init_X1_init_n56 : GoodIn wsX8_init (wsX1_init) := ggX8_init_X1_init
theorem dX8_init_0 : decode cX8_init 0 = .ok (.aload_n 0, 1) := by decide +kernel
theorem dX8_init_1 : decode cX8_init 1 = .ok (.invokespecial 1, 3) := by decide +kernel
theorem dX8_init_4 : decode cX8_init 4 = .ok (.aload_n 0, 1) := by decide +kernel
theorem dX8_init_5 : decode cX8_init 5 = .ok (.bipush 120, 2) := by decide +kernel
theorem dX8_init_7 : decode cX8_init 7 = .ok (.newarray .int, 2) := by decide +kernel
theorem dX8_init_9 : decode cX8_init 9 = .ok (.putfield 9, 3) := by decide +kernel
theorem dX8_init_12 : decode cX8_init 12 = .ok (.aload_n 0, 1) := by decide +kernel
theorem dX8_init_13 : decode cX8_init 13 = .ok (.iconst 2, 1) := by decide +kernel
theorem dX8_init_14 : decode cX8_init 14 = .ok (.newarray .int, 2) := by decide +kernel
theorem dX8_init_16 : decode cX8_init 16 = .ok (.putfield 13, 3) := by decide +kernel
theorem dX8_init_19 : decode cX8_init 19 = .ok (.aload_n 0, 1) := by decide +kernel
theorem dX8_init_20 : decode cX8_init 20 = .ok (.iload_n 1, 1) := by decide +kernel
theorem dX8_init_21 : decode cX8_init 21 = .ok (.iconst 1, 1) := by decide +kernel
theorem dX8_init_22 : decode cX8_init 22 = .ok (.if_icmp .lt 8, 3) := by decide +kernel
theorem dX8_init_25 : decode cX8_init 25 = .ok (.iload_n 1, 1) := by decide +kernel
theorem dX8_init_26 : decode cX8_init 26 = .ok (.iconst 3, 1) := by decide +kernel
theorem dX8_init_27 : decode cX8_init 27 = .ok (.if_icmp .le 7, 3) := by decide +kernel
theorem dX8_init_30 : decode cX8_init 30 = .ok (.iconst 2, 1) := by decide +kernel
theorem dX8_init_31 : decode cX8_init 31 = .ok (.goto 4, 3) := by decide +kernel
theorem dX8_init_34 : decode cX8_init 34 = .ok (.iload_n 1, 1) := by decide +kernel
theorem dX8_init_35 : decode cX8_init 35 = .ok (.putfield 16, 3) := by decide +kernel
theorem dX8_init_38 : decode cX8_init 38 = .ok (.aload_n 0, 1) := by decide +kernel
theorem dX8_init_39 : decode cX8_init 39 = .ok (.iload_n 2, 1) := by decide +kernel
theorem dX8_init_40 : decode cX8_init 40 = .ok (.putfield 20, 3) := by decide +kernel
theorem dX8_init_43 : decode cX8_init 43 = .ok (.aload_n 0, 1) := by decide +kernel
theorem dX8_init_44 : decode cX8_init 44 = .ok (.new 23, 3) := by decide +kernel
theorem dX8_init_47 : decode cX8_init 47 = .ok (.dup, 1) := by decide +kernel
theorem dX8_init_48 : decode cX8_init 48 = .ok (.invokespecial 25, 3) := by decide +kernel
theorem dX8_init_51 : decode cX8_init 51 = .ok (.putfield 26, 3) := by decide +kernel
theorem dX8_init_54 : decode cX8_init 54 = .ok (.aload_n 0, 1) := by decide +kernel
theorem dX8_init_55 : decode cX8_init 55 = .ok (.getfield 26, 3) := by decide +kernel
theorem dX8_init_58 : decode cX8_init 58 = .ok (.iload_n 2, 1) := by decide +kernel
theorem dX8_init_59 : decode cX8_init 59 = .ok (.iconst 0, 1) := by decide +kernel
theorem dX8_init_60 : decode cX8_init 60 = .ok (.invokevirtual 30, 3) := by decide +kernel
theorem dX8_init_63 : decode cX8_init 63 = .ok (.iconst 2, 1) := by decide +kernel
theorem dX8_init_64 : decode cX8_init 64 = .ok (.aload_n 0, 1) := by decide +kernel
theorem dX8_init_65 : decode cX8_init 65 = .ok (.getfield 16, 3) := by decide +kernel
theorem dX8_init_68 : decode cX8_init 68 = .ok (.imul, 1) := by decide +kernel
theorem dX8_init_69 : decode cX8_init 69 = .ok (.istore_n 3, 1) := by decide +kernel
theorem dX8_init_70 : decode cX8_init 70 = .ok (.aload_n 0, 1) := by decide +kernel
theorem dX8_init_71 : decode cX8_init 71 = .ok (.iload_n 3, 1) := by decide +kernel
theorem dX8_init_72 : decode cX8_init 72 = .ok (.anewarray 34, 3) := by decide +kernel
theorem dX8_init_75 : decode cX8_init 75 = .ok (.putfield 36, 3) := by decide +kernel
theorem dX8_init_78 : decode cX8_init 78 = .ok (.aload_n 0, 1) := by decide +kernel
theorem dX8_init_79 : decode cX8_init 79 = .ok (.iload_n 3, 1) := by decide +kernel
theorem dX8_init_80 : decode cX8_init 80 = .ok (.anewarray 40, 3) := by decide +kernel
theorem dX8_init_83 : decode cX8_init 83 = .ok (.putfield 42, 3) := by decide +kernel
theorem dX8_init_86 : decode cX8_init 86 = .ok (.iconst 0, 1) := by decide +kernel
theorem dX8_init_87 : decode cX8_init 87 = .ok (.istore 4, 2) := by decide +kernel
theorem dX8_init_89 : decode cX8_init 89 = .ok (.iload 4, 2) := by decide +kernel
theorem dX8_init_91 : decode cX8_init 91 = .ok (.iload_n 3, 1) := by decide +kernel
theorem dX8_init_92 : decode cX8_init 92 = .ok (.if_icmp .ge 87, 3) := by decide +kernel
theorem dX8_init_95 : decode cX8_init 95 = .ok (.iload 4, 2) := by decide +kernel
theorem dX8_init_97 : decode cX8_init 97 = .ok (.aload_n 0, 1) := by decide +kernel
theorem dX8_init_98 : decode cX8_init 98 = .ok (.getfield 16, 3) := by decide +kernel
theorem dX8_init_101 : decode cX8_init 101 = .ok (.if_icmp .ge 7, 3) := by decide +kernel
theorem dX8_init_104 : decode cX8_init 104 = .ok (.iconst 0, 1) := by decide +kernel
theorem dX8_init_105 : decode cX8_init 105 = .ok (.goto 4, 3) := by decide +kernel
theorem dX8_init_108 : decode cX8_init 108 = .ok (.iconst 1, 1) := by decide +kernel
theorem dX8_init_109 : decode cX8_init 109 = .ok (.istore 5, 2) := by decide +kernel
theorem dX8_init_111 : decode cX8_init 111 = .ok (.iload 4, 2) := by decide +kernel
theorem dX8_init_113 : decode cX8_init 113 = .ok (.iload 5, 2) := by decide +kernel
theorem dX8_init_115 : decode cX8_init 115 = .ok (.aload_n 0, 1) := by decide +kernel
theorem dX8_init_116 : decode cX8_init 116 = .ok (.getfield 16, 3) := by decide +kernel
theorem dX8_init_119 : decode cX8_init 119 = .ok (.imul, 1) := by decide +kernel
theorem dX8_init_120 : decode cX8_init 120 = .ok (.isub, 1) := by decide +kernel
theorem dX8_init_121 : decode cX8_init 121 = .ok (.istore 6, 2) := by decide +kernel
theorem dX8_init_123 : decode cX8_init 123 = .ok (.aload_n 0, 1) := by decide +kernel
theorem dX8_init_124 : decode cX8_init 124 = .ok (.getfield 36, 3) := by decide +kernel
theorem dX8_init_127 : decode cX8_init 127 = .ok (.iload 4, 2) := by decide +kernel
theorem dX8_init_129 : decode cX8_init 129 = .ok (.new 34, 3) := by decide +kernel
theorem dX8_init_132 : decode cX8_init 132 = .ok (.dup, 1) := by decide +kernel
theorem dX8_init_133 : decode cX8_init 133 = .ok (.bipush 8, 2) := by decide +kernel
theorem dX8_init_135 : decode cX8_init 135 = .ok (.iload 6, 2) := by decide +kernel
theorem dX8_init_137 : decode cX8_init 137 = .ok (.imul, 1) := by decide +kernel
theorem dX8_init_138 : decode cX8_init 138 = .ok (.iconst 4, 1) := by decide +kernel
theorem dX8_init_139 : decode cX8_init 139 = .ok (.iload 5, 2) := by decide +kernel
theorem dX8_init_141 : decode cX8_init 141 = .ok (.imul, 1) := by decide +kernel
theorem dX8_init_142 : decode cX8_init 142 = .ok (.iadd, 1) := by decide +kernel
theorem dX8_init_143 : decode cX8_init 143 = .ok (.invokespecial 46, 3) := by decide +kernel
theorem dX8_init_146 : decode cX8_init 146 = .ok (.aastore, 1) := by decide +kernel
theorem dX8_init_147 : decode cX8_init 147 = .ok (.aload_n 0, 1) := by decide +kernel
theorem dX8_init_148 : decode cX8_init 148 = .ok (.getfield 42, 3) := by decide +kernel
theorem dX8_init_151 : decode cX8_init 151 = .ok (.iload 4, 2) := by decide +kernel
theorem dX8_init_153 : decode cX8_init 153 = .ok (.new 40, 3) := by decide +kernel
theorem dX8_init_156 : decode cX8_init 156 = .ok (.dup, 1) := by decide +kernel
theorem dX8_init_157 : decode cX8_init 157 = .ok (.bipush 8, 2) := by decide +kernel
theorem dX8_init_159 : decode cX8_init 159 = .ok (.iload 6, 2) := by decide +kernel
theorem dX8_init_161 : decode cX8_init 161 = .ok (.imul, 1) := by decide +kernel
theorem dX8_init_162 : decode cX8_init 162 = .ok (.iconst 4, 1) := by decide +kernel
theorem dX8_init_163 : decode cX8_init 163 = .ok (.iconst 1, 1) := by decide +kernel
theorem dX8_init_164 : decode cX8_init 164 = .ok (.iload 5, 2) := by decide +kernel
theorem dX8_init_166 : decode cX8_init 166 = .ok (.isub, 1) := by decide +kernel
theorem dX8_init_167 : decode cX8_init 167 = .ok (.imul, 1) := by decide +kernel
theorem dX8_init_168 : decode cX8_init 168 = .ok (.iadd, 1) := by decide +kernel
theorem dX8_init_169 : decode cX8_init 169 = .ok (.invokespecial 49, 3) := by decide +kernel
theorem dX8_init_172 : decode cX8_init 172 = .ok (.aastore, 1) := by decide +kernel
theorem dX8_init_173 : decode cX8_init 173 = .ok (.iinc 4 1, 3) := by decide +kernel
theorem dX8_init_176 : decode cX8_init 176 = .ok (.goto (-87), 3) := by decide +kernel
theorem dX8_init_179 : decode cX8_init 179 = .ok (.aload_n 0, 1) := by decide +kernel
theorem dX8_init_180 : decode cX8_init 180 = .ok (.bipush 8, 2) := by decide +kernel
theorem dX8_init_182 : decode cX8_init 182 = .ok (.anewarray 50, 3) := by decide +kernel
theorem dX8_init_185 : decode cX8_init 185 = .ok (.putfield 52, 3) := by decide +kernel
theorem dX8_init_188 : decode cX8_init 188 = .ok (.iconst 0, 1) := by decide +kernel
theorem dX8_init_189 : decode cX8_init 189 = .ok (.istore 4, 2) := by decide +kernel
theorem dX8_init_191 : decode cX8_init 191 = .ok (.iload 4, 2) := by decide +kernel
theorem dX8_init_193 : decode cX8_init 193 = .ok (.aload_n 0, 1) := by decide +kernel
theorem dX8_init_194 : decode cX8_init 194 = .ok (.getfield 52, 3) := by decide +kernel
theorem dX8_init_197 : decode cX8_init 197 = .ok (.arraylength, 1) := by decide +kernel
theorem dX8_init_198 : decode cX8_init 198 = .ok (.if_icmp .ge 23, 3) := by decide +kernel
theorem dX8_init_201 : decode cX8_init 201 = .ok (.aload_n 0, 1) := by decide +kernel
theorem dX8_init_202 : decode cX8_init 202 = .ok (.getfield 52, 3) := by decide +kernel
theorem dX8_init_205 : decode cX8_init 205 = .ok (.iload 4, 2) := by decide +kernel
theorem dX8_init_207 : decode cX8_init 207 = .ok (.new 50, 3) := by decide +kernel
theorem dX8_init_210 : decode cX8_init 210 = .ok (.dup, 1) := by decide +kernel
theorem dX8_init_211 : decode cX8_init 211 = .ok (.invokespecial 56, 3) := by decide +kernel
theorem dX8_init_214 : decode cX8_init 214 = .ok (.aastore, 1) := by decide +kernel
theorem dX8_init_215 : decode cX8_init 215 = .ok (.iinc 4 1, 3) := by decide +kernel
theorem dX8_init_218 : decode cX8_init 218 = .ok (.goto (-27), 3) := by decide +kernel
theorem dX8_init_221 : decode cX8_init 221 = .ok (.return_, 1) := by decide +kernel
set_option maxRecDepth 20000 in
theorem ggX8_feed_X8_feedWord : GoodIn wsX8_feed wsX8_feedWord := goodIn_r _ [6, 1, 7, 8, 9, 10, 11, 12, 13, 14, 15, 16, 17, 18, 19, 20, 21, 22, 23] (by decide +kernel) (by decide +kernel)
set_option maxRecDepth 20000 in
theorem gX8_feed_X8_feedWord : GoodIn wsX8_feed (wsV RX8 60 RX8 yX8_feedWord wsX8_feedWord) := goodIn_app (goodIn_of _ (by decide +kernel)) ggX8_feed_X8_feedWord
theorem dX8_feed_0 : decode cX8_feed 0 = .ok (.aload_n 0, 1) := by decide +kernel
theorem dX8_feed_1 : decode cX8_feed 1 = .ok (.getfield 57, 3) := by decide +kernel
theorem dX8_feed_4 : decode cX8_feed 4 = .ok (.bipush 20, 2) := by decide +kernel
theorem dX8_feed_6 : decode cX8_feed 6 = .ok (.iadd, 1) := by decide +kernel
theorem dX8_feed_7 : decode cX8_feed 7 = .ok (.bipush 120, 2) := by decide +kernel
theorem dX8_feed_9 : decode cX8_feed 9 = .ok (.if_icmp .le 5, 3) := by decide +kernel
theorem dX8_feed_12 : decode cX8_feed 12 = .ok (.iconst (-1), 1) := by decide +kernel
theorem dX8_feed_13 : decode cX8_feed 13 = .ok (.ireturn, 1) := by decide +kernel
theorem dX8_feed_14 : decode cX8_feed 14 = .ok (.aload_n 0, 1) := by decide +kernel
theorem dX8_feed_15 : decode cX8_feed 15 = .ok (.iload_n 1, 1) := by decide +kernel
theorem dX8_feed_16 : decode cX8_feed 16 = .ok (.invokevirtual 60, 3) := by decide +kernel
theorem dX8_feed_19 : decode cX8_feed 19 = .ok (.aload_n 0, 1) := by decide +kernel
theorem dX8_feed_20 : decode cX8_feed 20 = .ok (.iload_n 2, 1) := by decide +kernel
theorem dX8_feed_21 : decode cX8_feed 21 = .ok (.invokevirtual 60, 3) := by decide +kernel
theorem dX8_feed_24 : decode cX8_feed 24 = .ok (.aload_n 0, 1) := by decide +kernel
theorem dX8_feed_25 : decode cX8_feed 25 = .ok (.iload_n 3, 1) := by decide +kernel
theorem dX8_feed_26 : decode cX8_feed 26 = .ok (.invokevirtual 60, 3) := by decide +kernel
theorem dX8_feed_29 : decode cX8_feed 29 = .ok (.aload_n 0, 1) := by decide +kernel
theorem dX8_feed_30 : decode cX8_feed 30 = .ok (.iload 4, 2) := by decide +kernel
theorem dX8_feed_32 : decode cX8_feed 32 = .ok (.invokevirtual 60, 3) := by decide +kernel
theorem dX8_feed_35 : decode cX8_feed 35 = .ok (.aload_n 0, 1) := by decide +kernel
theorem dX8_feed_36 : decode cX8_feed 36 = .ok (.iload 5, 2) := by decide +kernel
theorem dX8_feed_38 : decode cX8_feed 38 = .ok (.invokevirtual 60, 3) := by decide +kernel
theorem dX8_feed_41 : decode cX8_feed 41 = .ok (.aload_n 0, 1) := by decide +kernel
theorem dX8_feed_42 : decode cX8_feed 42 = .ok (.getfield 57, 3) := by decide +kernel
theorem dX8_feed_45 : decode cX8_feed 45 = .ok (.ireturn, 1) := by decide +kernel
theorem dX8_feedWord_0 : decode cX8_feedWord 0 = .ok (.bipush 24, 2) := by decide +kernel
theorem dX8_feedWord_2 : decode cX8_feedWord 2 = .ok (.istore_n 2, 1) := by decide +kernel
theorem dX8_feedWord_3 : decode cX8_feedWord 3 = .ok (.iload_n 2, 1) := by decide +kernel
theorem dX8_feedWord_4 : decode cX8_feedWord 4 = .ok (.ifCond .lt 41, 3) := by decide +kernel
theorem dX8_feedWord_7 : decode cX8_feedWord 7 = .ok (.aload_n 0, 1) := by decide +kernel
theorem dX8_feedWord_8 : decode cX8_feedWord 8 = .ok (.getfield 57, 3) := by decide +kernel
theorem dX8_feedWord_11 : decode cX8_feedWord 11 = .ok (.bipush 120, 2) := by decide +kernel
theorem dX8_feedWord_13 : decode cX8_feedWord 13 = .ok (.if_icmp .ge 32, 3) := by decide +kernel
theorem dX8_feedWord_16 : decode cX8_feedWord 16 = .ok (.aload_n 0, 1) := by decide +kernel
theorem dX8_feedWord_17 : decode cX8_feedWord 17 = .ok (.getfield 9, 3) := by decide +kernel
theorem dX8_feedWord_20 : decode cX8_feedWord 20 = .ok (.aload_n 0, 1) := by decide +kernel
theorem dX8_feedWord_21 : decode cX8_feedWord 21 = .ok (.dup, 1) := by decide +kernel
theorem dX8_feedWord_22 : decode cX8_feedWord 22 = .ok (.getfield 57, 3) := by decide +kernel
theorem dX8_feedWord_25 : decode cX8_feedWord 25 = .ok (.dup_x1, 1) := by decide +kernel
theorem dX8_feedWord_26 : decode cX8_feedWord 26 = .ok (.iconst 1, 1) := by decide +kernel
theorem dX8_feedWord_27 : decode cX8_feedWord 27 = .ok (.iadd, 1) := by decide +kernel
theorem dX8_feedWord_28 : decode cX8_feedWord 28 = .ok (.putfield 57, 3) := by decide +kernel
theorem dX8_feedWord_31 : decode cX8_feedWord 31 = .ok (.iload_n 1, 1) := by decide +kernel
theorem dX8_feedWord_32 : decode cX8_feedWord 32 = .ok (.iload_n 2, 1) := by decide +kernel
theorem dX8_feedWord_33 : decode cX8_feedWord 33 = .ok (.ishr, 1) := by decide +kernel
theorem dX8_feedWord_34 : decode cX8_feedWord 34 = .ok (.sipush 255, 3) := by decide +kernel
theorem dX8_feedWord_37 : decode cX8_feedWord 37 = .ok (.iand, 1) := by decide +kernel
theorem dX8_feedWord_38 : decode cX8_feedWord 38 = .ok (.iastore, 1) := by decide +kernel
theorem dX8_feedWord_39 : decode cX8_feedWord 39 = .ok (.iinc 2 (-8), 3) := by decide +kernel
theorem dX8_feedWord_42 : decode cX8_feedWord 42 = .ok (.goto (-39), 3) := by decide +kernel
theorem dX8_feedWord_45 : decode cX8_feedWord 45 = .ok (.return_, 1) := by decide +kernel
theorem dX8_end_0 : decode cX8_end 0 = .ok (.iload_n 1, 1) := by decide +kernel
theorem dX8_end_1 : decode cX8_end 1 = .ok (.ifCond .lt 11, 3) := by decide +kernel
theorem dX8_end_4 : decode cX8_end 4 = .ok (.iload_n 1, 1) := by decide +kernel
theorem dX8_end_5 : decode cX8_end 5 = .ok (.aload_n 0, 1) := by decide +kernel
theorem dX8_end_6 : decode cX8_end 6 = .ok (.getfield 57, 3) := by decide +kernel
theorem dX8_end_9 : decode cX8_end 9 = .ok (.if_icmp .le 5, 3) := by decide +kernel
theorem dX8_end_12 : decode cX8_end 12 = .ok (.iconst (-1), 1) := by decide +kernel
theorem dX8_end_13 : decode cX8_end 13 = .ok (.ireturn, 1) := by decide +kernel
theorem dX8_end_14 : decode cX8_end 14 = .ok (.aload_n 0, 1) := by decide +kernel
theorem dX8_end_15 : decode cX8_end 15 = .ok (.iload_n 1, 1) := by decide +kernel
theorem dX8_end_16 : decode cX8_end 16 = .ok (.putfield 57, 3) := by decide +kernel
theorem dX8_end_19 : decode cX8_end 19 = .ok (.iload_n 1, 1) := by decide +kernel
theorem dX8_end_20 : decode cX8_end 20 = .ok (.ireturn, 1) := by decide +kernel
set_option maxRecDepth 20000 in
theorem ggX8_send_X8_isPlace : GoodIn wsX8_send wsX8_isPlace := goodIn_r _ [8, 9, 36, 37, 38, 39, 40, 41, 42, 43, 44, 45, 46, 47, 48, 49, 50, 51] (by decide +kernel) (by decide +kernel)
set_option maxRecDepth 20000 in
theorem gX8_send_X8_isPlace : GoodIn wsX8_send (wsV RX8 63 RX8 yX8_isPlace wsX8_isPlace) := goodIn_app (goodIn_of _ (by decide +kernel)) ggX8_send_X8_isPlace
set_option maxRecDepth 20000 in
theorem ggX8_send_X8_placeOf : GoodIn wsX8_send wsX8_placeOf := goodIn_r _ [13, 9, 36, 37, 38, 39, 40, 41, 42, 43, 44, 45, 46, 47, 48, 49, 50, 51] (by decide +kernel) (by decide +kernel)
set_option maxRecDepth 20000 in
theorem gX8_send_X8_placeOf : GoodIn wsX8_send (wsV RX8 67 RX8 yX8_placeOf wsX8_placeOf) := goodIn_app (goodIn_of _ (by decide +kernel)) ggX8_send_X8_placeOf
set_option maxRecDepth 20000 in
theorem ggX8_send_X4_takeUnit : GoodIn wsX8_send wsX4_takeUnit := goodIn_r _ [18, 19, 20, 21, 22, 23, 24, 25, 26, 27, 28, 29, 30, 31, 32, 17, 33, 34, 35, 67, 68, 69, 70, 71, 72, 73, 74, 75, 76, 77, 78, 79, 80, 81] (by decide +kernel) (by decide +kernel)
set_option maxRecDepth 20000 in
theorem gX8_send_X4_takeUnit : GoodIn wsX8_send (wsV RX8 75 RX4 yX4_takeUnit wsX4_takeUnit) := goodIn_app (goodIn_of _ (by decide +kernel)) ggX8_send_X4_takeUnit
theorem dX8_send_0 : decode cX8_send 0 = .ok (.aload_n 0, 1) := by decide +kernel
theorem dX8_send_1 : decode cX8_send 1 = .ok (.iload_n 1, 1) := by decide +kernel
theorem dX8_send_2 : decode cX8_send 2 = .ok (.iload_n 2, 1) := by decide +kernel
theorem dX8_send_3 : decode cX8_send 3 = .ok (.invokevirtual 63, 3) := by decide +kernel
theorem dX8_send_6 : decode cX8_send 6 = .ok (.ifCond .eq 10, 3) := by decide +kernel
theorem dX8_send_9 : decode cX8_send 9 = .ok (.aload_n 0, 1) := by decide +kernel
theorem dX8_send_10 : decode cX8_send 10 = .ok (.getfield 57, 3) := by decide +kernel
theorem dX8_send_13 : decode cX8_send 13 = .ok (.ifCond .ne 5, 3) := by decide +kernel
theorem dX8_send_16 : decode cX8_send 16 = .ok (.iconst (-1), 1) := by decide +kernel
theorem dX8_send_17 : decode cX8_send 17 = .ok (.ireturn, 1) := by decide +kernel
theorem dX8_send_18 : decode cX8_send 18 = .ok (.aload_n 0, 1) := by decide +kernel
theorem dX8_send_19 : decode cX8_send 19 = .ok (.getfield 36, 3) := by decide +kernel
theorem dX8_send_22 : decode cX8_send 22 = .ok (.aload_n 0, 1) := by decide +kernel
theorem dX8_send_23 : decode cX8_send 23 = .ok (.iload_n 1, 1) := by decide +kernel
theorem dX8_send_24 : decode cX8_send 24 = .ok (.iload_n 2, 1) := by decide +kernel
theorem dX8_send_25 : decode cX8_send 25 = .ok (.invokevirtual 67, 3) := by decide +kernel
theorem dX8_send_28 : decode cX8_send 28 = .ok (.aaload, 1) := by decide +kernel
theorem dX8_send_29 : decode cX8_send 29 = .ok (.getfield 71, 3) := by decide +kernel
theorem dX8_send_32 : decode cX8_send 32 = .ok (.aload_n 0, 1) := by decide +kernel
theorem dX8_send_33 : decode cX8_send 33 = .ok (.getfield 9, 3) := by decide +kernel
theorem dX8_send_36 : decode cX8_send 36 = .ok (.aload_n 0, 1) := by decide +kernel
theorem dX8_send_37 : decode cX8_send 37 = .ok (.getfield 57, 3) := by decide +kernel
theorem dX8_send_40 : decode cX8_send 40 = .ok (.invokevirtual 75, 3) := by decide +kernel
theorem dX8_send_43 : decode cX8_send 43 = .ok (.istore_n 3, 1) := by decide +kernel
theorem dX8_send_44 : decode cX8_send 44 = .ok (.iload_n 3, 1) := by decide +kernel
theorem dX8_send_45 : decode cX8_send 45 = .ok (.iconst (-1), 1) := by decide +kernel
theorem dX8_send_46 : decode cX8_send 46 = .ok (.if_icmp .eq 8, 3) := by decide +kernel
theorem dX8_send_49 : decode cX8_send 49 = .ok (.aload_n 0, 1) := by decide +kernel
theorem dX8_send_50 : decode cX8_send 50 = .ok (.iconst 0, 1) := by decide +kernel
theorem dX8_send_51 : decode cX8_send 51 = .ok (.putfield 57, 3) := by decide +kernel
theorem dX8_send_54 : decode cX8_send 54 = .ok (.iload_n 3, 1) := by decide +kernel
theorem dX8_send_55 : decode cX8_send 55 = .ok (.ireturn, 1) := by decide +kernel
set_option maxRecDepth 20000 in
theorem ggX8_rate_X8_isPlace : GoodIn wsX8_rate wsX8_isPlace := goodIn_r _ [6, 7, 12, 13, 14, 15, 16, 17, 18, 19, 20, 21, 22, 23, 24, 25, 26, 27] (by decide +kernel) (by decide +kernel)
set_option maxRecDepth 20000 in
theorem gX8_rate_X8_isPlace : GoodIn wsX8_rate (wsV RX8 63 RX8 yX8_isPlace wsX8_isPlace) := goodIn_app (goodIn_of _ (by decide +kernel)) ggX8_rate_X8_isPlace
set_option maxRecDepth 20000 in
theorem ggX8_rate_X8_placeOf : GoodIn wsX8_rate wsX8_placeOf := goodIn_r _ [11, 7, 12, 13, 14, 15, 16, 17, 18, 19, 20, 21, 22, 23, 24, 25, 26, 27] (by decide +kernel) (by decide +kernel)
set_option maxRecDepth 20000 in
theorem gX8_rate_X8_placeOf : GoodIn wsX8_rate (wsV RX8 67 RX8 yX8_placeOf wsX8_placeOf) := goodIn_app (goodIn_of _ (by decide +kernel)) ggX8_rate_X8_placeOf
theorem dX8_rate_0 : decode cX8_rate 0 = .ok (.aload_n 0, 1) := by decide +kernel
theorem dX8_rate_1 : decode cX8_rate 1 = .ok (.iconst 0, 1) := by decide +kernel
theorem dX8_rate_2 : decode cX8_rate 2 = .ok (.iload_n 1, 1) := by decide +kernel
theorem dX8_rate_3 : decode cX8_rate 3 = .ok (.invokevirtual 63, 3) := by decide +kernel
theorem dX8_rate_6 : decode cX8_rate 6 = .ok (.ifCond .eq 14, 3) := by decide +kernel
theorem dX8_rate_9 : decode cX8_rate 9 = .ok (.iload_n 2, 1) := by decide +kernel
theorem dX8_rate_10 : decode cX8_rate 10 = .ok (.ifCond .lt 10, 3) := by decide +kernel
theorem dX8_rate_13 : decode cX8_rate 13 = .ok (.iload_n 2, 1) := by decide +kernel
theorem dX8_rate_14 : decode cX8_rate 14 = .ok (.sipush 200, 3) := by decide +kernel
theorem dX8_rate_17 : decode cX8_rate 17 = .ok (.if_icmp .le 5, 3) := by decide +kernel
theorem dX8_rate_20 : decode cX8_rate 20 = .ok (.iconst 0, 1) := by decide +kernel
theorem dX8_rate_21 : decode cX8_rate 21 = .ok (.ireturn, 1) := by decide +kernel
theorem dX8_rate_22 : decode cX8_rate 22 = .ok (.aload_n 0, 1) := by decide +kernel
theorem dX8_rate_23 : decode cX8_rate 23 = .ok (.getfield 36, 3) := by decide +kernel
theorem dX8_rate_26 : decode cX8_rate 26 = .ok (.aload_n 0, 1) := by decide +kernel
theorem dX8_rate_27 : decode cX8_rate 27 = .ok (.iconst 0, 1) := by decide +kernel
theorem dX8_rate_28 : decode cX8_rate 28 = .ok (.iload_n 1, 1) := by decide +kernel
theorem dX8_rate_29 : decode cX8_rate 29 = .ok (.invokevirtual 67, 3) := by decide +kernel
theorem dX8_rate_32 : decode cX8_rate 32 = .ok (.aaload, 1) := by decide +kernel
theorem dX8_rate_33 : decode cX8_rate 33 = .ok (.iload_n 2, 1) := by decide +kernel
theorem dX8_rate_34 : decode cX8_rate 34 = .ok (.putfield 81, 3) := by decide +kernel
theorem dX8_rate_37 : decode cX8_rate 37 = .ok (.aload_n 0, 1) := by decide +kernel
theorem dX8_rate_38 : decode cX8_rate 38 = .ok (.getfield 36, 3) := by decide +kernel
theorem dX8_rate_41 : decode cX8_rate 41 = .ok (.aload_n 0, 1) := by decide +kernel
theorem dX8_rate_42 : decode cX8_rate 42 = .ok (.iconst 1, 1) := by decide +kernel
theorem dX8_rate_43 : decode cX8_rate 43 = .ok (.iload_n 1, 1) := by decide +kernel
theorem dX8_rate_44 : decode cX8_rate 44 = .ok (.invokevirtual 67, 3) := by decide +kernel
theorem dX8_rate_47 : decode cX8_rate 47 = .ok (.aaload, 1) := by decide +kernel
theorem dX8_rate_48 : decode cX8_rate 48 = .ok (.iload_n 2, 1) := by decide +kernel
theorem dX8_rate_49 : decode cX8_rate 49 = .ok (.putfield 81, 3) := by decide +kernel
theorem dX8_rate_52 : decode cX8_rate 52 = .ok (.iconst 1, 1) := by decide +kernel
theorem dX8_rate_53 : decode cX8_rate 53 = .ok (.ireturn, 1) := by decide +kernel
set_option maxRecDepth 20000 in
theorem ggX8_tick_X7_countDown : GoodIn wsX8_tick wsX7_countDown := goodIn_r _ [10, 11, 12, 13, 14, 15, 16, 17, 18, 19, 9, 20, 21, 22, 23, 24, 25, 26, 27, 28, 29, 30, 31, 32, 33, 420, 421, 422, 423, 424, 425, 426, 427, 428, 429, 430, 431, 432, 433, 434, 435, 436, 437, 438, 439, 440, 441, 442, 443, 444, 445, 446, 447, 448, 449, 450, 451, 452, 453, 454, 455] (by decide +kernel) (by decide +kernel)
set_option maxRecDepth 20000 in
theorem gX8_tick_X7_countDown : GoodIn wsX8_tick (wsV RX8 87 RX7 yX7_countDown wsX7_countDown) := goodIn_app (goodIn_of _ (by decide +kernel)) ggX8_tick_X7_countDown
set_option maxRecDepth 20000 in
theorem ggX8_tick_X6_countDown : GoodIn wsX8_tick wsX6_countDown := goodIn_r _ [38, 39, 40, 41, 42, 43, 37, 44, 45, 46, 47, 48, 49, 50, 51, 52, 53, 54, 55, 56, 57, 58, 59, 60, 61, 62, 63, 64, 65, 66, 67, 68, 69, 70, 71, 456, 457, 458, 459, 460, 461, 462, 463, 464, 465, 466, 467, 468, 450, 451, 452, 453, 454, 455] (by decide +kernel) (by decide +kernel)
set_option maxRecDepth 20000 in
theorem gX8_tick_X6_countDown : GoodIn wsX8_tick (wsV RX8 90 RX6 yX6_countDown wsX6_countDown) := goodIn_app (goodIn_of _ (by decide +kernel)) ggX8_tick_X6_countDown
set_option maxRecDepth 20000 in
theorem ggX8_tick_X7_prepare : GoodIn wsX8_tick wsX7_prepare := goodIn_r _ [75, 26, 11, 15, 14, 13, 16, 76, 77, 78, 79, 49, 80, 420, 421, 422, 423, 424, 425, 426, 427, 428, 429, 430, 431, 432, 433, 434, 435, 436, 437, 438, 439, 440, 441, 442, 443, 444, 445, 446, 447, 448, 449] (by decide +kernel) (by decide +kernel)
set_option maxRecDepth 20000 in
theorem gX8_tick_X7_prepare : GoodIn wsX8_tick (wsV RX8 91 RX7 yX7_prepare wsX7_prepare) := goodIn_app (goodIn_of _ (by decide +kernel)) ggX8_tick_X7_prepare
set_option maxRecDepth 20000 in
theorem ggX8_tick_X8_fillBlock : GoodIn wsX8_tick wsX8_fillBlock := goodIn_r _ [85, 86, 2, 87, 79, 49, 80, 88, 89, 90, 84, 91, 92, 93, 94, 95, 3, 96, 97, 98, 99, 100, 101, 102, 103, 104, 105, 106, 37, 107, 45, 61, 51, 39, 108, 109, 62, 63, 64, 65, 66, 57, 58, 59, 60, 52, 110, 111, 112, 30, 113, 114, 115, 116, 117, 118, 119, 120, 121, 122, 123, 48, 50, 32, 124, 125, 126, 127, 128, 129, 130, 131, 132, 133, 134, 135, 9, 136, 15, 16, 137, 17, 18, 19, 20, 21, 138, 139, 140, 141, 142, 143, 144, 145, 146, 147, 148, 149, 150, 151, 152, 153, 154, 33, 155, 156, 157, 158, 159, 13, 14, 12, 160, 161, 11, 162, 163, 164, 165, 166, 167, 168, 169, 170, 171, 172, 173, 174, 175, 176, 177, 178, 179, 180, 181, 182, 183, 184, 185, 186, 187, 188, 189, 190, 191, 192, 193, 194, 195, 196, 197, 198, 199, 200, 201, 202, 203, 204, 205, 206, 207, 208, 209, 210, 211, 212, 213, 214, 215, 216, 217, 218, 219, 220, 221, 222, 223, 224, 225, 226, 227, 228, 229, 230, 231, 232, 233, 234, 235, 236, 237, 238, 239, 240, 241, 242, 243, 244, 245, 246, 247, 416, 417, 418, 419, 469, 470, 400, 401, 402, 403, 404, 405, 406, 407, 408, 409, 410, 411, 412, 413, 414, 415, 420, 421, 422, 423, 424, 425, 426, 427, 428, 429, 430, 431, 432, 433, 434, 456, 457, 458, 459, 460, 461, 462, 463, 464, 465, 466, 467, 468, 450, 451, 452, 453, 454, 455, 435, 436, 437, 438, 439, 440, 441, 442, 443, 444, 445, 446, 447, 448, 449, 471, 472, 473] (by decide +kernel) (by decide +kernel)
set_option maxRecDepth 20000 in
theorem gX8_tick_X8_fillBlock : GoodIn wsX8_tick (wsV RX8 97 RX8 yX8_fillBlock wsX8_fillBlock) := goodIn_app (goodIn_of _ (by decide +kernel)) ggX8_tick_X8_fillBlock
set_option maxRecDepth 20000 in
theorem ggX8_tick_X8_countSending : GoodIn wsX8_tick wsX8_countSending := goodIn_r _ [251, 252, 253, 400, 401, 402, 403, 404, 405, 406, 407, 408, 409, 410, 411, 412, 413, 414, 415, 416, 417, 418, 419] (by decide +kernel) (by decide +kernel)
set_option maxRecDepth 20000 in
theorem gX8_tick_X8_countSending : GoodIn wsX8_tick (wsV RX8 104 RX8 yX8_countSending wsX8_countSending) := goodIn_app (goodIn_of _ (by decide +kernel)) ggX8_tick_X8_countSending
set_option maxRecDepth 20000 in
theorem ggX8_tick_X8_workOn : GoodIn wsX8_tick wsX8_workOn := goodIn_r _ [257, 86, 258, 2, 259, 260, 261, 100, 262, 102, 103, 88, 89, 90, 84, 91, 263, 264, 265, 266, 3, 267, 268, 269, 37, 270, 271, 61, 272, 51, 273, 79, 49, 80, 52, 47, 48, 50, 274, 62, 63, 64, 65, 66, 275, 276, 277, 278, 279, 280, 281, 282, 283, 284, 30, 285, 32, 33, 286, 54, 55, 56, 45, 57, 58, 59, 60, 287, 288, 289, 290, 291, 292, 293, 172, 173, 174, 294, 295, 296, 297, 298, 299, 300, 301, 302, 303, 304, 305, 96, 306, 307, 308, 194, 309, 310, 311, 312, 313, 314, 315, 316, 317, 318, 319, 320, 321, 238, 196, 233, 322, 323, 324, 325, 326, 327, 328, 329, 330, 331, 332, 213, 214, 215, 216, 217, 218, 219, 220, 221, 222, 187, 188, 189, 223, 224, 225, 226, 227, 228, 333, 334, 335, 336, 337, 338, 202, 203, 204, 339, 340, 341, 342, 343, 344, 345, 346, 347, 348, 349, 350, 351, 352, 353, 180, 181, 182, 118, 183, 184, 185, 186, 354, 355, 356, 357, 40, 46, 71, 67, 68, 69, 70, 358, 359, 360, 9, 361, 362, 14, 15, 161, 11, 363, 364, 365, 366, 367, 368, 369, 370, 371, 17, 18, 19, 20, 21, 372, 373, 374, 375, 16, 13, 376, 377, 378, 379, 380, 381, 382, 383, 384, 385, 22, 23, 24, 25, 26, 27, 28, 29, 31, 469, 470, 400, 401, 402, 403, 404, 405, 406, 407, 408, 409, 410, 411, 412, 413, 414, 415, 456, 457, 458, 459, 460, 461, 462, 463, 464, 465, 466, 467, 468, 450, 451, 452, 453, 454, 455, 474, 475, 476, 477, 478, 479, 480, 481, 482, 483, 484, 485, 486, 420, 421, 422, 423, 424, 425, 426, 427, 428, 429, 430, 431, 432, 433, 434, 435, 436, 437, 438, 439, 440, 441, 442, 443, 444, 445, 446, 447, 448, 449, 471, 472, 473] (by decide +kernel) (by decide +kernel)
set_option maxRecDepth 20000 in
theorem gX8_tick_X8_workOn : GoodIn wsX8_tick (wsV RX8 112 RX8 yX8_workOn wsX8_workOn) := goodIn_app (goodIn_of _ (by decide +kernel)) ggX8_tick_X8_workOn
set_option maxRecDepth 20000 in
theorem ggX8_tick_X8_takeAnswer : GoodIn wsX8_tick wsX8_takeAnswer := goodIn_r _ [389, 390, 391, 392, 393, 394, 395, 396, 397, 398, 399, 400, 401, 402, 403, 404, 405, 406, 407, 408, 409, 410, 411, 412, 413, 414, 415, 416, 417, 418, 419] (by decide +kernel) (by decide +kernel)
set_option maxRecDepth 20000 in
theorem gX8_tick_X8_takeAnswer : GoodIn wsX8_tick (wsV RX8 116 RX8 yX8_takeAnswer wsX8_takeAnswer) := goodIn_app (goodIn_of _ (by decide +kernel)) ggX8_tick_X8_takeAnswer
theorem dX8_tick_0 : decode cX8_tick 0 = .ok (.iload_n 1, 1) := by decide +kernel
theorem dX8_tick_1 : decode cX8_tick 1 = .ok (.ifCond .lt 21, 3) := by decide +kernel
theorem dX8_tick_4 : decode cX8_tick 4 = .ok (.iload_n 1, 1) := by decide +kernel
theorem dX8_tick_5 : decode cX8_tick 5 = .ok (.sipush 250, 3) := by decide +kernel
theorem dX8_tick_8 : decode cX8_tick 8 = .ok (.if_icmp .gt 14, 3) := by decide +kernel
theorem dX8_tick_11 : decode cX8_tick 11 = .ok (.iload_n 2, 1) := by decide +kernel
theorem dX8_tick_12 : decode cX8_tick 12 = .ok (.ifCond .lt 10, 3) := by decide +kernel
theorem dX8_tick_15 : decode cX8_tick 15 = .ok (.iload_n 2, 1) := by decide +kernel
theorem dX8_tick_16 : decode cX8_tick 16 = .ok (.sipush 250, 3) := by decide +kernel
theorem dX8_tick_19 : decode cX8_tick 19 = .ok (.if_icmp .le 5, 3) := by decide +kernel
theorem dX8_tick_22 : decode cX8_tick 22 = .ok (.iconst (-1), 1) := by decide +kernel
theorem dX8_tick_23 : decode cX8_tick 23 = .ok (.ireturn, 1) := by decide +kernel
theorem dX8_tick_24 : decode cX8_tick 24 = .ok (.aload_n 0, 1) := by decide +kernel
theorem dX8_tick_25 : decode cX8_tick 25 = .ok (.dup, 1) := by decide +kernel
theorem dX8_tick_26 : decode cX8_tick 26 = .ok (.getfield 84, 3) := by decide +kernel
theorem dX8_tick_29 : decode cX8_tick 29 = .ok (.iconst 1, 1) := by decide +kernel
theorem dX8_tick_30 : decode cX8_tick 30 = .ok (.iadd, 1) := by decide +kernel
theorem dX8_tick_31 : decode cX8_tick 31 = .ok (.putfield 84, 3) := by decide +kernel
theorem dX8_tick_34 : decode cX8_tick 34 = .ok (.iconst 0, 1) := by decide +kernel
theorem dX8_tick_35 : decode cX8_tick 35 = .ok (.istore 4, 2) := by decide +kernel
theorem dX8_tick_37 : decode cX8_tick 37 = .ok (.iload 4, 2) := by decide +kernel
theorem dX8_tick_39 : decode cX8_tick 39 = .ok (.aload_n 0, 1) := by decide +kernel
theorem dX8_tick_40 : decode cX8_tick 40 = .ok (.getfield 36, 3) := by decide +kernel
theorem dX8_tick_43 : decode cX8_tick 43 = .ok (.arraylength, 1) := by decide +kernel
theorem dX8_tick_44 : decode cX8_tick 44 = .ok (.if_icmp .ge 29, 3) := by decide +kernel
theorem dX8_tick_47 : decode cX8_tick 47 = .ok (.aload_n 0, 1) := by decide +kernel
theorem dX8_tick_48 : decode cX8_tick 48 = .ok (.getfield 36, 3) := by decide +kernel
theorem dX8_tick_51 : decode cX8_tick 51 = .ok (.iload 4, 2) := by decide +kernel
theorem dX8_tick_53 : decode cX8_tick 53 = .ok (.aaload, 1) := by decide +kernel
theorem dX8_tick_54 : decode cX8_tick 54 = .ok (.invokevirtual 87, 3) := by decide +kernel
theorem dX8_tick_57 : decode cX8_tick 57 = .ok (.aload_n 0, 1) := by decide +kernel
theorem dX8_tick_58 : decode cX8_tick 58 = .ok (.getfield 42, 3) := by decide +kernel
theorem dX8_tick_61 : decode cX8_tick 61 = .ok (.iload 4, 2) := by decide +kernel
theorem dX8_tick_63 : decode cX8_tick 63 = .ok (.aaload, 1) := by decide +kernel
theorem dX8_tick_64 : decode cX8_tick 64 = .ok (.invokevirtual 90, 3) := by decide +kernel
theorem dX8_tick_67 : decode cX8_tick 67 = .ok (.iinc 4 1, 3) := by decide +kernel
theorem dX8_tick_70 : decode cX8_tick 70 = .ok (.goto (-33), 3) := by decide +kernel
theorem dX8_tick_73 : decode cX8_tick 73 = .ok (.iconst 0, 1) := by decide +kernel
theorem dX8_tick_74 : decode cX8_tick 74 = .ok (.istore 4, 2) := by decide +kernel
theorem dX8_tick_76 : decode cX8_tick 76 = .ok (.iload 4, 2) := by decide +kernel
theorem dX8_tick_78 : decode cX8_tick 78 = .ok (.aload_n 0, 1) := by decide +kernel
theorem dX8_tick_79 : decode cX8_tick 79 = .ok (.getfield 36, 3) := by decide +kernel
theorem dX8_tick_82 : decode cX8_tick 82 = .ok (.arraylength, 1) := by decide +kernel
theorem dX8_tick_83 : decode cX8_tick 83 = .ok (.if_icmp .ge 19, 3) := by decide +kernel
theorem dX8_tick_86 : decode cX8_tick 86 = .ok (.aload_n 0, 1) := by decide +kernel
theorem dX8_tick_87 : decode cX8_tick 87 = .ok (.getfield 36, 3) := by decide +kernel
theorem dX8_tick_90 : decode cX8_tick 90 = .ok (.iload 4, 2) := by decide +kernel
theorem dX8_tick_92 : decode cX8_tick 92 = .ok (.aaload, 1) := by decide +kernel
theorem dX8_tick_93 : decode cX8_tick 93 = .ok (.invokevirtual 91, 3) := by decide +kernel
theorem dX8_tick_96 : decode cX8_tick 96 = .ok (.iinc 4 1, 3) := by decide +kernel
theorem dX8_tick_99 : decode cX8_tick 99 = .ok (.goto (-23), 3) := by decide +kernel
theorem dX8_tick_102 : decode cX8_tick 102 = .ok (.iconst 0, 1) := by decide +kernel
theorem dX8_tick_103 : decode cX8_tick 103 = .ok (.istore 4, 2) := by decide +kernel
theorem dX8_tick_105 : decode cX8_tick 105 = .ok (.iconst 0, 1) := by decide +kernel
theorem dX8_tick_106 : decode cX8_tick 106 = .ok (.istore 5, 2) := by decide +kernel
theorem dX8_tick_108 : decode cX8_tick 108 = .ok (.iload 5, 2) := by decide +kernel
theorem dX8_tick_110 : decode cX8_tick 110 = .ok (.iconst 2, 1) := by decide +kernel
theorem dX8_tick_111 : decode cX8_tick 111 = .ok (.if_icmp .ge 153, 3) := by decide +kernel
theorem dX8_tick_114 : decode cX8_tick 114 = .ok (.aload_n 0, 1) := by decide +kernel
theorem dX8_tick_115 : decode cX8_tick 115 = .ok (.getfield 52, 3) := by decide +kernel
theorem dX8_tick_118 : decode cX8_tick 118 = .ok (.iload 5, 2) := by decide +kernel
theorem dX8_tick_120 : decode cX8_tick 120 = .ok (.iconst 4, 1) := by decide +kernel
theorem dX8_tick_121 : decode cX8_tick 121 = .ok (.imul, 1) := by decide +kernel
theorem dX8_tick_122 : decode cX8_tick 122 = .ok (.aload_n 0, 1) := by decide +kernel
theorem dX8_tick_123 : decode cX8_tick 123 = .ok (.getfield 84, 3) := by decide +kernel
theorem dX8_tick_126 : decode cX8_tick 126 = .ok (.iconst 3, 1) := by decide +kernel
theorem dX8_tick_127 : decode cX8_tick 127 = .ok (.iand, 1) := by decide +kernel
theorem dX8_tick_128 : decode cX8_tick 128 = .ok (.iadd, 1) := by decide +kernel
theorem dX8_tick_129 : decode cX8_tick 129 = .ok (.aaload, 1) := by decide +kernel
theorem dX8_tick_130 : decode cX8_tick 130 = .ok (.astore 6, 2) := by decide +kernel
theorem dX8_tick_132 : decode cX8_tick 132 = .ok (.aload 6, 2) := by decide +kernel
theorem dX8_tick_134 : decode cX8_tick 134 = .ok (.getfield 94, 3) := by decide +kernel
theorem dX8_tick_137 : decode cX8_tick 137 = .ok (.ifCond .ne 21, 3) := by decide +kernel
theorem dX8_tick_140 : decode cX8_tick 140 = .ok (.aload_n 0, 1) := by decide +kernel
theorem dX8_tick_141 : decode cX8_tick 141 = .ok (.iload 5, 2) := by decide +kernel
theorem dX8_tick_143 : decode cX8_tick 143 = .ok (.aload 6, 2) := by decide +kernel
theorem dX8_tick_145 : decode cX8_tick 145 = .ok (.iload 5, 2) := by decide +kernel
theorem dX8_tick_147 : decode cX8_tick 147 = .ok (.ifCond .ne 7, 3) := by decide +kernel
theorem dX8_tick_150 : decode cX8_tick 150 = .ok (.iload_n 1, 1) := by decide +kernel
theorem dX8_tick_151 : decode cX8_tick 151 = .ok (.goto 4, 3) := by decide +kernel
theorem dX8_tick_154 : decode cX8_tick 154 = .ok (.iload_n 2, 1) := by decide +kernel
theorem dX8_tick_155 : decode cX8_tick 155 = .ok (.invokevirtual 97, 3) := by decide +kernel
theorem dX8_tick_158 : decode cX8_tick 158 = .ok (.aload_n 0, 1) := by decide +kernel
theorem dX8_tick_159 : decode cX8_tick 159 = .ok (.getfield 13, 3) := by decide +kernel
theorem dX8_tick_162 : decode cX8_tick 162 = .ok (.iload 5, 2) := by decide +kernel
theorem dX8_tick_164 : decode cX8_tick 164 = .ok (.aload 6, 2) := by decide +kernel
theorem dX8_tick_166 : decode cX8_tick 166 = .ok (.getfield 101, 3) := by decide +kernel
theorem dX8_tick_169 : decode cX8_tick 169 = .ok (.iastore, 1) := by decide +kernel
theorem dX8_tick_170 : decode cX8_tick 170 = .ok (.aload 6, 2) := by decide +kernel
theorem dX8_tick_172 : decode cX8_tick 172 = .ok (.getfield 101, 3) := by decide +kernel
theorem dX8_tick_175 : decode cX8_tick 175 = .ok (.ifCond .le 83, 3) := by decide +kernel
theorem dX8_tick_178 : decode cX8_tick 178 = .ok (.iload 4, 2) := by decide +kernel
theorem dX8_tick_180 : decode cX8_tick 180 = .ok (.iconst 1, 1) := by decide +kernel
theorem dX8_tick_181 : decode cX8_tick 181 = .ok (.iload 5, 2) := by decide +kernel
theorem dX8_tick_183 : decode cX8_tick 183 = .ok (.ishl, 1) := by decide +kernel
theorem dX8_tick_184 : decode cX8_tick 184 = .ok (.ior, 1) := by decide +kernel
theorem dX8_tick_185 : decode cX8_tick 185 = .ok (.istore 4, 2) := by decide +kernel
theorem dX8_tick_187 : decode cX8_tick 187 = .ok (.iload_n 3, 1) := by decide +kernel
theorem dX8_tick_188 : decode cX8_tick 188 = .ok (.iload 5, 2) := by decide +kernel
theorem dX8_tick_190 : decode cX8_tick 190 = .ok (.ishr, 1) := by decide +kernel
theorem dX8_tick_191 : decode cX8_tick 191 = .ok (.iconst 1, 1) := by decide +kernel
theorem dX8_tick_192 : decode cX8_tick 192 = .ok (.iand, 1) := by decide +kernel
theorem dX8_tick_193 : decode cX8_tick 193 = .ok (.ifCond .eq 7, 3) := by decide +kernel
theorem dX8_tick_196 : decode cX8_tick 196 = .ok (.iconst 1, 1) := by decide +kernel
theorem dX8_tick_197 : decode cX8_tick 197 = .ok (.goto 4, 3) := by decide +kernel
theorem dX8_tick_200 : decode cX8_tick 200 = .ok (.iconst 0, 1) := by decide +kernel
theorem dX8_tick_201 : decode cX8_tick 201 = .ok (.istore 7, 2) := by decide +kernel
theorem dX8_tick_203 : decode cX8_tick 203 = .ok (.aload_n 0, 1) := by decide +kernel
theorem dX8_tick_204 : decode cX8_tick 204 = .ok (.aload 6, 2) := by decide +kernel
theorem dX8_tick_206 : decode cX8_tick 206 = .ok (.iload 7, 2) := by decide +kernel
theorem dX8_tick_208 : decode cX8_tick 208 = .ok (.invokevirtual 104, 3) := by decide +kernel
theorem dX8_tick_211 : decode cX8_tick 211 = .ok (.ifCond .eq 25, 3) := by decide +kernel
theorem dX8_tick_214 : decode cX8_tick 214 = .ok (.iload 4, 2) := by decide +kernel
theorem dX8_tick_216 : decode cX8_tick 216 = .ok (.iconst 4, 1) := by decide +kernel
theorem dX8_tick_217 : decode cX8_tick 217 = .ok (.iload 5, 2) := by decide +kernel
theorem dX8_tick_219 : decode cX8_tick 219 = .ok (.ishl, 1) := by decide +kernel
theorem dX8_tick_220 : decode cX8_tick 220 = .ok (.ior, 1) := by decide +kernel
theorem dX8_tick_221 : decode cX8_tick 221 = .ok (.istore 4, 2) := by decide +kernel
theorem dX8_tick_223 : decode cX8_tick 223 = .ok (.aload_n 0, 1) := by decide +kernel
theorem dX8_tick_224 : decode cX8_tick 224 = .ok (.iconst 1, 1) := by decide +kernel
theorem dX8_tick_225 : decode cX8_tick 225 = .ok (.iload 5, 2) := by decide +kernel
theorem dX8_tick_227 : decode cX8_tick 227 = .ok (.isub, 1) := by decide +kernel
theorem dX8_tick_228 : decode cX8_tick 228 = .ok (.aload 6, 2) := by decide +kernel
theorem dX8_tick_230 : decode cX8_tick 230 = .ok (.getfield 108, 3) := by decide +kernel
theorem dX8_tick_233 : decode cX8_tick 233 = .ok (.invokevirtual 112, 3) := by decide +kernel
theorem dX8_tick_236 : decode cX8_tick 236 = .ok (.aload_n 0, 1) := by decide +kernel
theorem dX8_tick_237 : decode cX8_tick 237 = .ok (.aload 6, 2) := by decide +kernel
theorem dX8_tick_239 : decode cX8_tick 239 = .ok (.iload_n 3, 1) := by decide +kernel
theorem dX8_tick_240 : decode cX8_tick 240 = .ok (.iload 5, 2) := by decide +kernel
theorem dX8_tick_242 : decode cX8_tick 242 = .ok (.iconst 2, 1) := by decide +kernel
theorem dX8_tick_243 : decode cX8_tick 243 = .ok (.iadd, 1) := by decide +kernel
theorem dX8_tick_244 : decode cX8_tick 244 = .ok (.ishr, 1) := by decide +kernel
theorem dX8_tick_245 : decode cX8_tick 245 = .ok (.iconst 1, 1) := by decide +kernel
theorem dX8_tick_246 : decode cX8_tick 246 = .ok (.iand, 1) := by decide +kernel
theorem dX8_tick_247 : decode cX8_tick 247 = .ok (.ifCond .eq 7, 3) := by decide +kernel
theorem dX8_tick_250 : decode cX8_tick 250 = .ok (.iconst 1, 1) := by decide +kernel
theorem dX8_tick_251 : decode cX8_tick 251 = .ok (.goto 4, 3) := by decide +kernel
theorem dX8_tick_254 : decode cX8_tick 254 = .ok (.iconst 0, 1) := by decide +kernel
theorem dX8_tick_255 : decode cX8_tick 255 = .ok (.invokevirtual 116, 3) := by decide +kernel
theorem dX8_tick_258 : decode cX8_tick 258 = .ok (.iinc 5 1, 3) := by decide +kernel
theorem dX8_tick_261 : decode cX8_tick 261 = .ok (.goto (-153), 3) := by decide +kernel
theorem dX8_tick_264 : decode cX8_tick 264 = .ok (.iload 4, 2) := by decide +kernel
theorem dX8_tick_266 : decode cX8_tick 266 = .ok (.ireturn, 1) := by decide +kernel
set_option maxRecDepth 20000 in
theorem ggX8_renew_X8_handAllWhole : GoodIn wsX8_renew wsX8_handAllWhole := goodIn_r _ [11, 1, 12, 13, 14, 15, 16, 17, 18, 19, 20, 21, 22, 23, 24, 25, 26, 27, 10, 28, 29, 30, 31, 32, 33, 34, 35, 36, 37, 38, 39, 40, 41, 42, 43, 44, 45, 46, 2, 5, 47, 48, 49, 50, 51, 52, 53, 54, 55, 56, 57, 58, 59, 60, 61, 62, 63, 64, 65, 66, 67, 68, 69, 70, 71, 72, 73, 74, 75, 76, 77, 78, 79, 80, 81, 82, 83, 84, 85, 86, 87, 88, 89, 90, 91, 92, 93, 94, 95, 96, 97, 98, 99, 100, 101, 102, 103, 104, 105, 106, 107, 108, 109, 110, 111, 112, 113, 114, 115, 116, 117, 118, 181, 182, 183, 184, 185, 186, 187, 188, 189, 190, 191, 192, 193, 194, 195, 196, 212, 213, 214, 215, 216, 217, 218, 219, 220, 221, 222, 223, 224, 225, 226, 227, 228, 229, 230, 231, 232, 233, 234, 235, 236, 237, 238, 239, 240, 241, 242, 243, 197, 198, 199, 200, 201, 202, 203, 204, 205, 206, 207, 208, 209, 210, 211, 244, 245, 246, 247, 248, 249, 250, 251, 252, 253, 254, 255, 256, 257, 258, 259, 260, 261] (by decide +kernel) (by decide +kernel)
set_option maxRecDepth 20000 in
theorem gX8_renew_X8_handAllWhole : GoodIn wsX8_renew (wsV RX8 120 RX8 yX8_handAllWhole wsX8_handAllWhole) := goodIn_app (goodIn_of _ (by decide +kernel)) ggX8_renew_X8_handAllWhole
set_option maxRecDepth 20000 in
theorem ggX8_renew_X6_startAnew : GoodIn wsX8_renew wsX6_startAnew := goodIn_r _ [122, 17, 18, 123, 124, 125, 126, 127, 128, 19, 20, 21, 15, 22, 23, 129, 130, 131, 32, 132, 34, 133, 134, 135, 136, 137, 138, 88, 89, 90, 212, 213, 214, 215, 216, 217, 218, 219, 220, 221, 222, 223, 224, 238, 239, 240, 241, 242, 243] (by decide +kernel) (by decide +kernel)
set_option maxRecDepth 20000 in
theorem gX8_renew_X6_startAnew : GoodIn wsX8_renew (wsV RX8 123 RX6 yX6_startAnew wsX6_startAnew) := goodIn_app (goodIn_of _ (by decide +kernel)) ggX8_renew_X6_startAnew
set_option maxRecDepth 20000 in
theorem ggX8_renew_X7_startAnew : GoodIn wsX8_renew wsX7_startAnew := goodIn_r _ [143, 144, 145, 146, 147, 148, 149, 150, 151, 197, 198, 199, 200, 201, 202, 203, 204, 205, 206, 207, 208, 209, 210, 211] (by decide +kernel) (by decide +kernel)
set_option maxRecDepth 20000 in
theorem gX8_renew_X7_startAnew : GoodIn wsX8_renew (wsV RX8 126 RX7 yX7_startAnew wsX7_startAnew) := goodIn_app (goodIn_of _ (by decide +kernel)) ggX8_renew_X7_startAnew
set_option maxRecDepth 20000 in
theorem ggX8_renew_X1_makeEmpty : GoodIn wsX8_renew wsX1_makeEmpty := goodIn_r _ [156, 157, 158, 159, 262, 263, 264, 265] (by decide +kernel) (by decide +kernel)
set_option maxRecDepth 20000 in
theorem gX8_renew_X1_makeEmpty : GoodIn wsX8_renew (wsV RX8 127 RX1 yX1_makeEmpty wsX1_makeEmpty) := goodIn_app (goodIn_of _ (by decide +kernel)) ggX8_renew_X1_makeEmpty
set_option maxRecDepth 20000 in
theorem ggX8_renew_X2_setKey : GoodIn wsX8_renew wsX2_setKey := goodIn_r _ [163, 95, 259, 260, 261] (by decide +kernel) (by decide +kernel)
set_option maxRecDepth 20000 in
theorem gX8_renew_X2_setKey : GoodIn wsX8_renew (wsV RX8 30 RX2 yX2_setKey wsX2_setKey) := goodIn_app (goodIn_of _ (by decide +kernel)) ggX8_renew_X2_setKey
set_option maxRecDepth 20000 in
theorem ggX8_renew_X4_waitAnew : GoodIn wsX8_renew wsX4_waitAnew := goodIn_r _ [167, 168, 169, 64, 66, 53, 52, 170, 171, 172, 173, 174, 38, 175, 76, 71, 176, 88, 89, 90, 177, 178, 179, 50, 180, 65, 54, 55, 56, 57, 58, 244, 245, 246, 247, 248, 249, 250, 251, 252, 253, 254, 255, 256, 257, 258, 225, 226, 227, 228, 229, 230, 231, 232, 233, 234, 235, 236, 237] (by decide +kernel) (by decide +kernel)
set_option maxRecDepth 20000 in
theorem gX8_renew_X4_waitAnew : GoodIn wsX8_renew (wsV RX8 137 RX4 yX4_waitAnew wsX4_waitAnew) := goodIn_app (goodIn_of _ (by decide +kernel)) ggX8_renew_X4_waitAnew
theorem dX8_renew_0 : decode cX8_renew 0 = .ok (.iconst 0, 1) := by decide +kernel
theorem dX8_renew_1 : decode cX8_renew 1 = .ok (.istore_n 1, 1) := by decide +kernel
theorem dX8_renew_2 : decode cX8_renew 2 = .ok (.iload_n 1, 1) := by decide +kernel
theorem dX8_renew_3 : decode cX8_renew 3 = .ok (.aload_n 0, 1) := by decide +kernel
theorem dX8_renew_4 : decode cX8_renew 4 = .ok (.getfield 42, 3) := by decide +kernel
theorem dX8_renew_7 : decode cX8_renew 7 = .ok (.arraylength, 1) := by decide +kernel
theorem dX8_renew_8 : decode cX8_renew 8 = .ok (.if_icmp .ge 23, 3) := by decide +kernel
theorem dX8_renew_11 : decode cX8_renew 11 = .ok (.aload_n 0, 1) := by decide +kernel
theorem dX8_renew_12 : decode cX8_renew 12 = .ok (.iload_n 1, 1) := by decide +kernel
theorem dX8_renew_13 : decode cX8_renew 13 = .ok (.invokevirtual 120, 3) := by decide +kernel
theorem dX8_renew_16 : decode cX8_renew 16 = .ok (.aload_n 0, 1) := by decide +kernel
theorem dX8_renew_17 : decode cX8_renew 17 = .ok (.getfield 42, 3) := by decide +kernel
theorem dX8_renew_20 : decode cX8_renew 20 = .ok (.iload_n 1, 1) := by decide +kernel
theorem dX8_renew_21 : decode cX8_renew 21 = .ok (.aaload, 1) := by decide +kernel
theorem dX8_renew_22 : decode cX8_renew 22 = .ok (.invokevirtual 123, 3) := by decide +kernel
theorem dX8_renew_25 : decode cX8_renew 25 = .ok (.iinc 1 1, 3) := by decide +kernel
theorem dX8_renew_28 : decode cX8_renew 28 = .ok (.goto (-26), 3) := by decide +kernel
theorem dX8_renew_31 : decode cX8_renew 31 = .ok (.iconst 0, 1) := by decide +kernel
theorem dX8_renew_32 : decode cX8_renew 32 = .ok (.istore_n 1, 1) := by decide +kernel
theorem dX8_renew_33 : decode cX8_renew 33 = .ok (.iload_n 1, 1) := by decide +kernel
theorem dX8_renew_34 : decode cX8_renew 34 = .ok (.aload_n 0, 1) := by decide +kernel
theorem dX8_renew_35 : decode cX8_renew 35 = .ok (.getfield 36, 3) := by decide +kernel
theorem dX8_renew_38 : decode cX8_renew 38 = .ok (.arraylength, 1) := by decide +kernel
theorem dX8_renew_39 : decode cX8_renew 39 = .ok (.if_icmp .ge 18, 3) := by decide +kernel
theorem dX8_renew_42 : decode cX8_renew 42 = .ok (.aload_n 0, 1) := by decide +kernel
theorem dX8_renew_43 : decode cX8_renew 43 = .ok (.getfield 36, 3) := by decide +kernel
theorem dX8_renew_46 : decode cX8_renew 46 = .ok (.iload_n 1, 1) := by decide +kernel
theorem dX8_renew_47 : decode cX8_renew 47 = .ok (.aaload, 1) := by decide +kernel
theorem dX8_renew_48 : decode cX8_renew 48 = .ok (.invokevirtual 126, 3) := by decide +kernel
theorem dX8_renew_51 : decode cX8_renew 51 = .ok (.iinc 1 1, 3) := by decide +kernel
theorem dX8_renew_54 : decode cX8_renew 54 = .ok (.goto (-21), 3) := by decide +kernel
theorem dX8_renew_57 : decode cX8_renew 57 = .ok (.iconst 0, 1) := by decide +kernel
theorem dX8_renew_58 : decode cX8_renew 58 = .ok (.istore_n 1, 1) := by decide +kernel
theorem dX8_renew_59 : decode cX8_renew 59 = .ok (.iload_n 1, 1) := by decide +kernel
theorem dX8_renew_60 : decode cX8_renew 60 = .ok (.aload_n 0, 1) := by decide +kernel
theorem dX8_renew_61 : decode cX8_renew 61 = .ok (.getfield 52, 3) := by decide +kernel
theorem dX8_renew_64 : decode cX8_renew 64 = .ok (.arraylength, 1) := by decide +kernel
theorem dX8_renew_65 : decode cX8_renew 65 = .ok (.if_icmp .ge 18, 3) := by decide +kernel
theorem dX8_renew_68 : decode cX8_renew 68 = .ok (.aload_n 0, 1) := by decide +kernel
theorem dX8_renew_69 : decode cX8_renew 69 = .ok (.getfield 52, 3) := by decide +kernel
theorem dX8_renew_72 : decode cX8_renew 72 = .ok (.iload_n 1, 1) := by decide +kernel
theorem dX8_renew_73 : decode cX8_renew 73 = .ok (.aaload, 1) := by decide +kernel
theorem dX8_renew_74 : decode cX8_renew 74 = .ok (.invokevirtual 127, 3) := by decide +kernel
theorem dX8_renew_77 : decode cX8_renew 77 = .ok (.iinc 1 1, 3) := by decide +kernel
theorem dX8_renew_80 : decode cX8_renew 80 = .ok (.goto (-21), 3) := by decide +kernel
theorem dX8_renew_83 : decode cX8_renew 83 = .ok (.aload_n 0, 1) := by decide +kernel
theorem dX8_renew_84 : decode cX8_renew 84 = .ok (.dup, 1) := by decide +kernel
theorem dX8_renew_85 : decode cX8_renew 85 = .ok (.getfield 130, 3) := by decide +kernel
theorem dX8_renew_88 : decode cX8_renew 88 = .ok (.iconst 1, 1) := by decide +kernel
theorem dX8_renew_89 : decode cX8_renew 89 = .ok (.iadd, 1) := by decide +kernel
theorem dX8_renew_90 : decode cX8_renew 90 = .ok (.putfield 130, 3) := by decide +kernel
theorem dX8_renew_93 : decode cX8_renew 93 = .ok (.aload_n 0, 1) := by decide +kernel
theorem dX8_renew_94 : decode cX8_renew 94 = .ok (.getfield 26, 3) := by decide +kernel
theorem dX8_renew_97 : decode cX8_renew 97 = .ok (.aload_n 0, 1) := by decide +kernel
theorem dX8_renew_98 : decode cX8_renew 98 = .ok (.getfield 20, 3) := by decide +kernel
theorem dX8_renew_101 : decode cX8_renew 101 = .ok (.aload_n 0, 1) := by decide +kernel
theorem dX8_renew_102 : decode cX8_renew 102 = .ok (.getfield 130, 3) := by decide +kernel
theorem dX8_renew_105 : decode cX8_renew 105 = .ok (.invokevirtual 30, 3) := by decide +kernel
theorem dX8_renew_108 : decode cX8_renew 108 = .ok (.iconst 0, 1) := by decide +kernel
theorem dX8_renew_109 : decode cX8_renew 109 = .ok (.istore_n 1, 1) := by decide +kernel
theorem dX8_renew_110 : decode cX8_renew 110 = .ok (.iload_n 1, 1) := by decide +kernel
theorem dX8_renew_111 : decode cX8_renew 111 = .ok (.aload_n 0, 1) := by decide +kernel
theorem dX8_renew_112 : decode cX8_renew 112 = .ok (.getfield 36, 3) := by decide +kernel
theorem dX8_renew_115 : decode cX8_renew 115 = .ok (.arraylength, 1) := by decide +kernel
theorem dX8_renew_116 : decode cX8_renew 116 = .ok (.if_icmp .ge 30, 3) := by decide +kernel
theorem dX8_renew_119 : decode cX8_renew 119 = .ok (.aload_n 0, 1) := by decide +kernel
theorem dX8_renew_120 : decode cX8_renew 120 = .ok (.getfield 36, 3) := by decide +kernel
theorem dX8_renew_123 : decode cX8_renew 123 = .ok (.iload_n 1, 1) := by decide +kernel
theorem dX8_renew_124 : decode cX8_renew 124 = .ok (.aaload, 1) := by decide +kernel
theorem dX8_renew_125 : decode cX8_renew 125 = .ok (.getfield 71, 3) := by decide +kernel
theorem dX8_renew_128 : decode cX8_renew 128 = .ok (.aload_n 0, 1) := by decide +kernel
theorem dX8_renew_129 : decode cX8_renew 129 = .ok (.getfield 42, 3) := by decide +kernel
theorem dX8_renew_132 : decode cX8_renew 132 = .ok (.iload_n 1, 1) := by decide +kernel
theorem dX8_renew_133 : decode cX8_renew 133 = .ok (.aaload, 1) := by decide +kernel
theorem dX8_renew_134 : decode cX8_renew 134 = .ok (.getfield 133, 3) := by decide +kernel
theorem dX8_renew_137 : decode cX8_renew 137 = .ok (.invokevirtual 137, 3) := by decide +kernel
theorem dX8_renew_140 : decode cX8_renew 140 = .ok (.iinc 1 1, 3) := by decide +kernel
theorem dX8_renew_143 : decode cX8_renew 143 = .ok (.goto (-33), 3) := by decide +kernel
theorem dX8_renew_146 : decode cX8_renew 146 = .ok (.aload_n 0, 1) := by decide +kernel
theorem dX8_renew_147 : decode cX8_renew 147 = .ok (.getfield 130, 3) := by decide +kernel
theorem dX8_renew_150 : decode cX8_renew 150 = .ok (.ireturn, 1) := by decide +kernel
set_option maxRecDepth 20000 in
theorem ggX8_block_X0_at : GoodIn wsX8_block wsX0_at := goodIn_r _ [8, 9, 10, 31, 32] (by decide +kernel) (by decide +kernel)
set_option maxRecDepth 20000 in
theorem gX8_block_X0_at : GoodIn wsX8_block (wsV RX8 141 RX0 yX0_at wsX0_at) := goodIn_app (goodIn_of _ (by decide +kernel)) ggX8_block_X0_at
theorem dX8_block_0 : decode cX8_block 0 = .ok (.iload_n 1, 1) := by decide +kernel
theorem dX8_block_1 : decode cX8_block 1 = .ok (.ifCond .lt 17, 3) := by decide +kernel
theorem dX8_block_4 : decode cX8_block 4 = .ok (.iload_n 1, 1) := by decide +kernel
theorem dX8_block_5 : decode cX8_block 5 = .ok (.iconst 1, 1) := by decide +kernel
theorem dX8_block_6 : decode cX8_block 6 = .ok (.if_icmp .gt 12, 3) := by decide +kernel
theorem dX8_block_9 : decode cX8_block 9 = .ok (.aload_n 0, 1) := by decide +kernel
theorem dX8_block_10 : decode cX8_block 10 = .ok (.getfield 13, 3) := by decide +kernel
theorem dX8_block_13 : decode cX8_block 13 = .ok (.iload_n 1, 1) := by decide +kernel
theorem dX8_block_14 : decode cX8_block 14 = .ok (.iaload, 1) := by decide +kernel
theorem dX8_block_15 : decode cX8_block 15 = .ok (.ifCond .ne 5, 3) := by decide +kernel
theorem dX8_block_18 : decode cX8_block 18 = .ok (.iconst (-1), 1) := by decide +kernel
theorem dX8_block_19 : decode cX8_block 19 = .ok (.ireturn, 1) := by decide +kernel
theorem dX8_block_20 : decode cX8_block 20 = .ok (.iload_n 2, 1) := by decide +kernel
theorem dX8_block_21 : decode cX8_block 21 = .ok (.iconst (-1), 1) := by decide +kernel
theorem dX8_block_22 : decode cX8_block 22 = .ok (.if_icmp .ne 10, 3) := by decide +kernel
theorem dX8_block_25 : decode cX8_block 25 = .ok (.aload_n 0, 1) := by decide +kernel
theorem dX8_block_26 : decode cX8_block 26 = .ok (.getfield 13, 3) := by decide +kernel
theorem dX8_block_29 : decode cX8_block 29 = .ok (.iload_n 1, 1) := by decide +kernel
theorem dX8_block_30 : decode cX8_block 30 = .ok (.iaload, 1) := by decide +kernel
theorem dX8_block_31 : decode cX8_block 31 = .ok (.ireturn, 1) := by decide +kernel
theorem dX8_block_32 : decode cX8_block 32 = .ok (.iload_n 2, 1) := by decide +kernel
theorem dX8_block_33 : decode cX8_block 33 = .ok (.ifCond .lt 13, 3) := by decide +kernel
theorem dX8_block_36 : decode cX8_block 36 = .ok (.iload_n 2, 1) := by decide +kernel
theorem dX8_block_37 : decode cX8_block 37 = .ok (.aload_n 0, 1) := by decide +kernel
theorem dX8_block_38 : decode cX8_block 38 = .ok (.getfield 13, 3) := by decide +kernel
theorem dX8_block_41 : decode cX8_block 41 = .ok (.iload_n 1, 1) := by decide +kernel
theorem dX8_block_42 : decode cX8_block 42 = .ok (.iaload, 1) := by decide +kernel
theorem dX8_block_43 : decode cX8_block 43 = .ok (.if_icmp .lt 5, 3) := by decide +kernel
theorem dX8_block_46 : decode cX8_block 46 = .ok (.iconst (-1), 1) := by decide +kernel
theorem dX8_block_47 : decode cX8_block 47 = .ok (.ireturn, 1) := by decide +kernel
theorem dX8_block_48 : decode cX8_block 48 = .ok (.aload_n 0, 1) := by decide +kernel
theorem dX8_block_49 : decode cX8_block 49 = .ok (.getfield 52, 3) := by decide +kernel
theorem dX8_block_52 : decode cX8_block 52 = .ok (.iload_n 1, 1) := by decide +kernel
theorem dX8_block_53 : decode cX8_block 53 = .ok (.iconst 4, 1) := by decide +kernel
theorem dX8_block_54 : decode cX8_block 54 = .ok (.imul, 1) := by decide +kernel
theorem dX8_block_55 : decode cX8_block 55 = .ok (.aload_n 0, 1) := by decide +kernel
theorem dX8_block_56 : decode cX8_block 56 = .ok (.getfield 84, 3) := by decide +kernel
theorem dX8_block_59 : decode cX8_block 59 = .ok (.iconst 3, 1) := by decide +kernel
theorem dX8_block_60 : decode cX8_block 60 = .ok (.iand, 1) := by decide +kernel
theorem dX8_block_61 : decode cX8_block 61 = .ok (.iadd, 1) := by decide +kernel
theorem dX8_block_62 : decode cX8_block 62 = .ok (.aaload, 1) := by decide +kernel
theorem dX8_block_63 : decode cX8_block 63 = .ok (.getfield 108, 3) := by decide +kernel
theorem dX8_block_66 : decode cX8_block 66 = .ok (.iload_n 2, 1) := by decide +kernel
theorem dX8_block_67 : decode cX8_block 67 = .ok (.invokevirtual 141, 3) := by decide +kernel
theorem dX8_block_70 : decode cX8_block 70 = .ok (.ireturn, 1) := by decide +kernel
set_option maxRecDepth 20000 in
theorem ggX8_sender_X8_isPlace : GoodIn wsX8_sender wsX8_isPlace := goodIn_r _ [6, 7, 27, 28, 29, 30, 31, 32, 33, 34, 35, 36, 37, 38, 39, 40, 41, 42] (by decide +kernel) (by decide +kernel)
set_option maxRecDepth 20000 in
theorem gX8_sender_X8_isPlace : GoodIn wsX8_sender (wsV RX8 63 RX8 yX8_isPlace wsX8_isPlace) := goodIn_app (goodIn_of _ (by decide +kernel)) ggX8_sender_X8_isPlace
set_option maxRecDepth 20000 in
theorem ggX8_sender_X8_placeOf : GoodIn wsX8_sender wsX8_placeOf := goodIn_r _ [11, 7, 27, 28, 29, 30, 31, 32, 33, 34, 35, 36, 37, 38, 39, 40, 41, 42] (by decide +kernel) (by decide +kernel)
set_option maxRecDepth 20000 in
theorem gX8_sender_X8_placeOf : GoodIn wsX8_sender (wsV RX8 67 RX8 yX8_placeOf wsX8_placeOf) := goodIn_app (goodIn_of _ (by decide +kernel)) ggX8_sender_X8_placeOf
set_option maxRecDepth 20000 in
theorem ggX8_sender_X4_waitingBytes : GoodIn wsX8_sender wsX4_waitingBytes := goodIn_r _ [16, 17, 18, 19, 20, 21, 22, 23, 15, 24, 25, 26, 58, 59, 60, 61, 62, 63, 64, 65, 66, 67, 68, 69, 70, 71, 72] (by decide +kernel) (by decide +kernel)
set_option maxRecDepth 20000 in
theorem gX8_sender_X4_waitingBytes : GoodIn wsX8_sender (wsV RX8 156 RX4 yX4_waitingBytes wsX4_waitingBytes) := goodIn_app (goodIn_of _ (by decide +kernel)) ggX8_sender_X4_waitingBytes
theorem dX8_sender_0 : decode cX8_sender 0 = .ok (.aload_n 0, 1) := by decide +kernel
theorem dX8_sender_1 : decode cX8_sender 1 = .ok (.iload_n 1, 1) := by decide +kernel
theorem dX8_sender_2 : decode cX8_sender 2 = .ok (.iload_n 2, 1) := by decide +kernel
theorem dX8_sender_3 : decode cX8_sender 3 = .ok (.invokevirtual 63, 3) := by decide +kernel
theorem dX8_sender_6 : decode cX8_sender 6 = .ok (.ifCond .ne 5, 3) := by decide +kernel
theorem dX8_sender_9 : decode cX8_sender 9 = .ok (.iconst (-1), 1) := by decide +kernel
theorem dX8_sender_10 : decode cX8_sender 10 = .ok (.ireturn, 1) := by decide +kernel
theorem dX8_sender_11 : decode cX8_sender 11 = .ok (.aload_n 0, 1) := by decide +kernel
theorem dX8_sender_12 : decode cX8_sender 12 = .ok (.getfield 36, 3) := by decide +kernel
theorem dX8_sender_15 : decode cX8_sender 15 = .ok (.aload_n 0, 1) := by decide +kernel
theorem dX8_sender_16 : decode cX8_sender 16 = .ok (.iload_n 1, 1) := by decide +kernel
theorem dX8_sender_17 : decode cX8_sender 17 = .ok (.iload_n 2, 1) := by decide +kernel
theorem dX8_sender_18 : decode cX8_sender 18 = .ok (.invokevirtual 67, 3) := by decide +kernel
theorem dX8_sender_21 : decode cX8_sender 21 = .ok (.aaload, 1) := by decide +kernel
theorem dX8_sender_22 : decode cX8_sender 22 = .ok (.astore 4, 2) := by decide +kernel
theorem dX8_sender_24 : decode cX8_sender 24 = .ok (.iload_n 3, 1) := by decide +kernel
theorem dX8_sender_25 : decode cX8_sender 25 = .ok (.tableswitch 152 0 11 #[63, 69, 75, 84, 93, 99, 105, 119, 125, 131, 137, 143], 63) := by decide +kernel
theorem dX8_sender_88 : decode cX8_sender 88 = .ok (.aload 4, 2) := by decide +kernel
theorem dX8_sender_90 : decode cX8_sender 90 = .ok (.getfield 147, 3) := by decide +kernel
theorem dX8_sender_93 : decode cX8_sender 93 = .ok (.ireturn, 1) := by decide +kernel
theorem dX8_sender_94 : decode cX8_sender 94 = .ok (.aload 4, 2) := by decide +kernel
theorem dX8_sender_96 : decode cX8_sender 96 = .ok (.getfield 150, 3) := by decide +kernel
theorem dX8_sender_99 : decode cX8_sender 99 = .ok (.ireturn, 1) := by decide +kernel
theorem dX8_sender_100 : decode cX8_sender 100 = .ok (.aload 4, 2) := by decide +kernel
theorem dX8_sender_102 : decode cX8_sender 102 = .ok (.getfield 71, 3) := by decide +kernel
theorem dX8_sender_105 : decode cX8_sender 105 = .ok (.getfield 153, 3) := by decide +kernel
theorem dX8_sender_108 : decode cX8_sender 108 = .ok (.ireturn, 1) := by decide +kernel
theorem dX8_sender_109 : decode cX8_sender 109 = .ok (.aload 4, 2) := by decide +kernel
theorem dX8_sender_111 : decode cX8_sender 111 = .ok (.getfield 71, 3) := by decide +kernel
theorem dX8_sender_114 : decode cX8_sender 114 = .ok (.invokevirtual 156, 3) := by decide +kernel
theorem dX8_sender_117 : decode cX8_sender 117 = .ok (.ireturn, 1) := by decide +kernel
theorem dX8_sender_118 : decode cX8_sender 118 = .ok (.aload 4, 2) := by decide +kernel
theorem dX8_sender_120 : decode cX8_sender 120 = .ok (.getfield 160, 3) := by decide +kernel
theorem dX8_sender_123 : decode cX8_sender 123 = .ok (.ireturn, 1) := by decide +kernel
theorem dX8_sender_124 : decode cX8_sender 124 = .ok (.aload 4, 2) := by decide +kernel
theorem dX8_sender_126 : decode cX8_sender 126 = .ok (.getfield 163, 3) := by decide +kernel
theorem dX8_sender_129 : decode cX8_sender 129 = .ok (.ireturn, 1) := by decide +kernel
theorem dX8_sender_130 : decode cX8_sender 130 = .ok (.aload 4, 2) := by decide +kernel
theorem dX8_sender_132 : decode cX8_sender 132 = .ok (.getfield 166, 3) := by decide +kernel
theorem dX8_sender_135 : decode cX8_sender 135 = .ok (.ifCond .eq 7, 3) := by decide +kernel
theorem dX8_sender_138 : decode cX8_sender 138 = .ok (.iconst 1, 1) := by decide +kernel
theorem dX8_sender_139 : decode cX8_sender 139 = .ok (.goto 4, 3) := by decide +kernel
theorem dX8_sender_142 : decode cX8_sender 142 = .ok (.iconst 0, 1) := by decide +kernel
theorem dX8_sender_143 : decode cX8_sender 143 = .ok (.ireturn, 1) := by decide +kernel
theorem dX8_sender_144 : decode cX8_sender 144 = .ok (.aload 4, 2) := by decide +kernel
theorem dX8_sender_146 : decode cX8_sender 146 = .ok (.getfield 170, 3) := by decide +kernel
theorem dX8_sender_149 : decode cX8_sender 149 = .ok (.ireturn, 1) := by decide +kernel
theorem dX8_sender_150 : decode cX8_sender 150 = .ok (.aload 4, 2) := by decide +kernel
theorem dX8_sender_152 : decode cX8_sender 152 = .ok (.getfield 173, 3) := by decide +kernel
theorem dX8_sender_155 : decode cX8_sender 155 = .ok (.ireturn, 1) := by decide +kernel
theorem dX8_sender_156 : decode cX8_sender 156 = .ok (.aload 4, 2) := by decide +kernel
theorem dX8_sender_158 : decode cX8_sender 158 = .ok (.getfield 176, 3) := by decide +kernel
theorem dX8_sender_161 : decode cX8_sender 161 = .ok (.ireturn, 1) := by decide +kernel
theorem dX8_sender_162 : decode cX8_sender 162 = .ok (.aload 4, 2) := by decide +kernel
theorem dX8_sender_164 : decode cX8_sender 164 = .ok (.getfield 179, 3) := by decide +kernel
theorem dX8_sender_167 : decode cX8_sender 167 = .ok (.ireturn, 1) := by decide +kernel
theorem dX8_sender_168 : decode cX8_sender 168 = .ok (.aload 4, 2) := by decide +kernel
theorem dX8_sender_170 : decode cX8_sender 170 = .ok (.getfield 71, 3) := by decide +kernel
theorem dX8_sender_173 : decode cX8_sender 173 = .ok (.getfield 182, 3) := by decide +kernel
theorem dX8_sender_176 : decode cX8_sender 176 = .ok (.ireturn, 1) := by decide +kernel
theorem dX8_sender_177 : decode cX8_sender 177 = .ok (.iconst (-1), 1) := by decide +kernel
theorem dX8_sender_178 : decode cX8_sender 178 = .ok (.ireturn, 1) := by decide +kernel
set_option maxRecDepth 20000 in
theorem ggX8_receiver_X8_isPlace : GoodIn wsX8_receiver wsX8_isPlace := goodIn_r _ [6, 7, 24, 25, 26, 27, 28, 29, 30, 31, 32, 33, 34, 35, 36, 37, 38, 39] (by decide +kernel) (by decide +kernel)
set_option maxRecDepth 20000 in
theorem gX8_receiver_X8_isPlace : GoodIn wsX8_receiver (wsV RX8 63 RX8 yX8_isPlace wsX8_isPlace) := goodIn_app (goodIn_of _ (by decide +kernel)) ggX8_receiver_X8_isPlace
set_option maxRecDepth 20000 in
theorem ggX8_receiver_X8_placeOf : GoodIn wsX8_receiver wsX8_placeOf := goodIn_r _ [11, 7, 24, 25, 26, 27, 28, 29, 30, 31, 32, 33, 34, 35, 36, 37, 38, 39] (by decide +kernel) (by decide +kernel)
set_option maxRecDepth 20000 in
theorem gX8_receiver_X8_placeOf : GoodIn wsX8_receiver (wsV RX8 67 RX8 yX8_placeOf wsX8_placeOf) := goodIn_app (goodIn_of _ (by decide +kernel)) ggX8_receiver_X8_placeOf
set_option maxRecDepth 20000 in
theorem ggX8_receiver_X6_heldBytes : GoodIn wsX8_receiver wsX6_heldBytes := goodIn_r _ [16, 17, 18, 19, 20, 21, 15, 22, 23, 40, 41, 42, 43, 44, 45, 46, 47, 48, 49, 50, 51, 52, 53, 54, 55, 56, 57, 58] (by decide +kernel) (by decide +kernel)
set_option maxRecDepth 20000 in
theorem gX8_receiver_X6_heldBytes : GoodIn wsX8_receiver (wsV RX8 204 RX6 yX6_heldBytes wsX6_heldBytes) := goodIn_app (goodIn_of _ (by decide +kernel)) ggX8_receiver_X6_heldBytes
theorem dX8_receiver_0 : decode cX8_receiver 0 = .ok (.aload_n 0, 1) := by decide +kernel
theorem dX8_receiver_1 : decode cX8_receiver 1 = .ok (.iload_n 1, 1) := by decide +kernel
theorem dX8_receiver_2 : decode cX8_receiver 2 = .ok (.iload_n 2, 1) := by decide +kernel
theorem dX8_receiver_3 : decode cX8_receiver 3 = .ok (.invokevirtual 63, 3) := by decide +kernel
theorem dX8_receiver_6 : decode cX8_receiver 6 = .ok (.ifCond .ne 5, 3) := by decide +kernel
theorem dX8_receiver_9 : decode cX8_receiver 9 = .ok (.iconst (-1), 1) := by decide +kernel
theorem dX8_receiver_10 : decode cX8_receiver 10 = .ok (.ireturn, 1) := by decide +kernel
theorem dX8_receiver_11 : decode cX8_receiver 11 = .ok (.aload_n 0, 1) := by decide +kernel
theorem dX8_receiver_12 : decode cX8_receiver 12 = .ok (.getfield 42, 3) := by decide +kernel
theorem dX8_receiver_15 : decode cX8_receiver 15 = .ok (.aload_n 0, 1) := by decide +kernel
theorem dX8_receiver_16 : decode cX8_receiver 16 = .ok (.iload_n 1, 1) := by decide +kernel
theorem dX8_receiver_17 : decode cX8_receiver 17 = .ok (.iload_n 2, 1) := by decide +kernel
theorem dX8_receiver_18 : decode cX8_receiver 18 = .ok (.invokevirtual 67, 3) := by decide +kernel
theorem dX8_receiver_21 : decode cX8_receiver 21 = .ok (.aaload, 1) := by decide +kernel
theorem dX8_receiver_22 : decode cX8_receiver 22 = .ok (.astore 4, 2) := by decide +kernel
theorem dX8_receiver_24 : decode cX8_receiver 24 = .ok (.iload_n 3, 1) := by decide +kernel
theorem dX8_receiver_25 : decode cX8_receiver 25 = .ok (.tableswitch 143 0 11 #[63, 69, 75, 81, 87, 93, 99, 113, 119, 125, 131, 137], 63) := by decide +kernel
theorem dX8_receiver_88 : decode cX8_receiver 88 = .ok (.aload 4, 2) := by decide +kernel
theorem dX8_receiver_90 : decode cX8_receiver 90 = .ok (.getfield 185, 3) := by decide +kernel
theorem dX8_receiver_93 : decode cX8_receiver 93 = .ok (.ireturn, 1) := by decide +kernel
theorem dX8_receiver_94 : decode cX8_receiver 94 = .ok (.aload 4, 2) := by decide +kernel
theorem dX8_receiver_96 : decode cX8_receiver 96 = .ok (.getfield 186, 3) := by decide +kernel
theorem dX8_receiver_99 : decode cX8_receiver 99 = .ok (.ireturn, 1) := by decide +kernel
theorem dX8_receiver_100 : decode cX8_receiver 100 = .ok (.aload 4, 2) := by decide +kernel
theorem dX8_receiver_102 : decode cX8_receiver 102 = .ok (.getfield 189, 3) := by decide +kernel
theorem dX8_receiver_105 : decode cX8_receiver 105 = .ok (.ireturn, 1) := by decide +kernel
theorem dX8_receiver_106 : decode cX8_receiver 106 = .ok (.aload 4, 2) := by decide +kernel
theorem dX8_receiver_108 : decode cX8_receiver 108 = .ok (.getfield 192, 3) := by decide +kernel
theorem dX8_receiver_111 : decode cX8_receiver 111 = .ok (.ireturn, 1) := by decide +kernel
theorem dX8_receiver_112 : decode cX8_receiver 112 = .ok (.aload 4, 2) := by decide +kernel
theorem dX8_receiver_114 : decode cX8_receiver 114 = .ok (.getfield 195, 3) := by decide +kernel
theorem dX8_receiver_117 : decode cX8_receiver 117 = .ok (.ireturn, 1) := by decide +kernel
theorem dX8_receiver_118 : decode cX8_receiver 118 = .ok (.aload 4, 2) := by decide +kernel
theorem dX8_receiver_120 : decode cX8_receiver 120 = .ok (.getfield 198, 3) := by decide +kernel
theorem dX8_receiver_123 : decode cX8_receiver 123 = .ok (.ireturn, 1) := by decide +kernel
theorem dX8_receiver_124 : decode cX8_receiver 124 = .ok (.aload 4, 2) := by decide +kernel
theorem dX8_receiver_126 : decode cX8_receiver 126 = .ok (.getfield 201, 3) := by decide +kernel
theorem dX8_receiver_129 : decode cX8_receiver 129 = .ok (.ifCond .eq 7, 3) := by decide +kernel
theorem dX8_receiver_132 : decode cX8_receiver 132 = .ok (.iconst 1, 1) := by decide +kernel
theorem dX8_receiver_133 : decode cX8_receiver 133 = .ok (.goto 4, 3) := by decide +kernel
theorem dX8_receiver_136 : decode cX8_receiver 136 = .ok (.iconst 0, 1) := by decide +kernel
theorem dX8_receiver_137 : decode cX8_receiver 137 = .ok (.ireturn, 1) := by decide +kernel
theorem dX8_receiver_138 : decode cX8_receiver 138 = .ok (.aload 4, 2) := by decide +kernel
theorem dX8_receiver_140 : decode cX8_receiver 140 = .ok (.invokevirtual 204, 3) := by decide +kernel
theorem dX8_receiver_143 : decode cX8_receiver 143 = .ok (.ireturn, 1) := by decide +kernel
theorem dX8_receiver_144 : decode cX8_receiver 144 = .ok (.aload 4, 2) := by decide +kernel
theorem dX8_receiver_146 : decode cX8_receiver 146 = .ok (.getfield 207, 3) := by decide +kernel
theorem dX8_receiver_149 : decode cX8_receiver 149 = .ok (.ireturn, 1) := by decide +kernel
theorem dX8_receiver_150 : decode cX8_receiver 150 = .ok (.aload 4, 2) := by decide +kernel
theorem dX8_receiver_152 : decode cX8_receiver 152 = .ok (.getfield 210, 3) := by decide +kernel
theorem dX8_receiver_155 : decode cX8_receiver 155 = .ok (.ireturn, 1) := by decide +kernel
theorem dX8_receiver_156 : decode cX8_receiver 156 = .ok (.aload 4, 2) := by decide +kernel
theorem dX8_receiver_158 : decode cX8_receiver 158 = .ok (.getfield 213, 3) := by decide +kernel
theorem dX8_receiver_161 : decode cX8_receiver 161 = .ok (.ireturn, 1) := by decide +kernel
theorem dX8_receiver_162 : decode cX8_receiver 162 = .ok (.aload 4, 2) := by decide +kernel
theorem dX8_receiver_164 : decode cX8_receiver 164 = .ok (.getfield 216, 3) := by decide +kernel
theorem dX8_receiver_167 : decode cX8_receiver 167 = .ok (.ireturn, 1) := by decide +kernel
theorem dX8_receiver_168 : decode cX8_receiver 168 = .ok (.iconst (-1), 1) := by decide +kernel
theorem dX8_receiver_169 : decode cX8_receiver 169 = .ok (.ireturn, 1) := by decide +kernel
set_option maxRecDepth 20000 in
theorem ggX8_delivered_X8_isPlace : GoodIn wsX8_delivered wsX8_isPlace := goodIn_r _ [6, 7, 12, 13, 14, 15, 16, 17, 18, 19, 20, 21, 22, 23, 24, 25, 26, 27] (by decide +kernel) (by decide +kernel)
set_option maxRecDepth 20000 in
theorem gX8_delivered_X8_isPlace : GoodIn wsX8_delivered (wsV RX8 63 RX8 yX8_isPlace wsX8_isPlace) := goodIn_app (goodIn_of _ (by decide +kernel)) ggX8_delivered_X8_isPlace
set_option maxRecDepth 20000 in
theorem ggX8_delivered_X8_placeOf : GoodIn wsX8_delivered wsX8_placeOf := goodIn_r _ [11, 7, 12, 13, 14, 15, 16, 17, 18, 19, 20, 21, 22, 23, 24, 25, 26, 27] (by decide +kernel) (by decide +kernel)
set_option maxRecDepth 20000 in
theorem gX8_delivered_X8_placeOf : GoodIn wsX8_delivered (wsV RX8 67 RX8 yX8_placeOf wsX8_placeOf) := goodIn_app (goodIn_of _ (by decide +kernel)) ggX8_delivered_X8_placeOf
theorem dX8_delivered_0 : decode cX8_delivered 0 = .ok (.aload_n 0, 1) := by decide +kernel
theorem dX8_delivered_1 : decode cX8_delivered 1 = .ok (.iload_n 1, 1) := by decide +kernel
theorem dX8_delivered_2 : decode cX8_delivered 2 = .ok (.iload_n 2, 1) := by decide +kernel
theorem dX8_delivered_3 : decode cX8_delivered 3 = .ok (.invokevirtual 63, 3) := by decide +kernel
theorem dX8_delivered_6 : decode cX8_delivered 6 = .ok (.ifCond .ne 5, 3) := by decide +kernel
theorem dX8_delivered_9 : decode cX8_delivered 9 = .ok (.iconst (-1), 1) := by decide +kernel
theorem dX8_delivered_10 : decode cX8_delivered 10 = .ok (.ireturn, 1) := by decide +kernel
theorem dX8_delivered_11 : decode cX8_delivered 11 = .ok (.aload_n 0, 1) := by decide +kernel
theorem dX8_delivered_12 : decode cX8_delivered 12 = .ok (.getfield 42, 3) := by decide +kernel
theorem dX8_delivered_15 : decode cX8_delivered 15 = .ok (.aload_n 0, 1) := by decide +kernel
theorem dX8_delivered_16 : decode cX8_delivered 16 = .ok (.iload_n 1, 1) := by decide +kernel
theorem dX8_delivered_17 : decode cX8_delivered 17 = .ok (.iload_n 2, 1) := by decide +kernel
theorem dX8_delivered_18 : decode cX8_delivered 18 = .ok (.invokevirtual 67, 3) := by decide +kernel
theorem dX8_delivered_21 : decode cX8_delivered 21 = .ok (.aaload, 1) := by decide +kernel
theorem dX8_delivered_22 : decode cX8_delivered 22 = .ok (.getfield 133, 3) := by decide +kernel
theorem dX8_delivered_25 : decode cX8_delivered 25 = .ok (.astore 4, 2) := by decide +kernel
theorem dX8_delivered_27 : decode cX8_delivered 27 = .ok (.iload_n 3, 1) := by decide +kernel
theorem dX8_delivered_28 : decode cX8_delivered 28 = .ok (.tableswitch 76 0 5 #[40, 46, 52, 58, 64, 70], 40) := by decide +kernel
theorem dX8_delivered_68 : decode cX8_delivered 68 = .ok (.aload 4, 2) := by decide +kernel
theorem dX8_delivered_70 : decode cX8_delivered 70 = .ok (.getfield 219, 3) := by decide +kernel
theorem dX8_delivered_73 : decode cX8_delivered 73 = .ok (.ireturn, 1) := by decide +kernel
theorem dX8_delivered_74 : decode cX8_delivered 74 = .ok (.aload 4, 2) := by decide +kernel
theorem dX8_delivered_76 : decode cX8_delivered 76 = .ok (.getfield 222, 3) := by decide +kernel
theorem dX8_delivered_79 : decode cX8_delivered 79 = .ok (.ireturn, 1) := by decide +kernel
theorem dX8_delivered_80 : decode cX8_delivered 80 = .ok (.aload 4, 2) := by decide +kernel
theorem dX8_delivered_82 : decode cX8_delivered 82 = .ok (.getfield 225, 3) := by decide +kernel
theorem dX8_delivered_85 : decode cX8_delivered 85 = .ok (.ireturn, 1) := by decide +kernel
theorem dX8_delivered_86 : decode cX8_delivered 86 = .ok (.aload 4, 2) := by decide +kernel
theorem dX8_delivered_88 : decode cX8_delivered 88 = .ok (.getfield 228, 3) := by decide +kernel
theorem dX8_delivered_91 : decode cX8_delivered 91 = .ok (.ireturn, 1) := by decide +kernel
theorem dX8_delivered_92 : decode cX8_delivered 92 = .ok (.aload 4, 2) := by decide +kernel
theorem dX8_delivered_94 : decode cX8_delivered 94 = .ok (.getfield 231, 3) := by decide +kernel
theorem dX8_delivered_97 : decode cX8_delivered 97 = .ok (.ireturn, 1) := by decide +kernel
theorem dX8_delivered_98 : decode cX8_delivered 98 = .ok (.aload 4, 2) := by decide +kernel
theorem dX8_delivered_100 : decode cX8_delivered 100 = .ok (.getfield 234, 3) := by decide +kernel
theorem dX8_delivered_103 : decode cX8_delivered 103 = .ok (.ireturn, 1) := by decide +kernel
theorem dX8_delivered_104 : decode cX8_delivered 104 = .ok (.iconst (-1), 1) := by decide +kernel
theorem dX8_delivered_105 : decode cX8_delivered 105 = .ok (.ireturn, 1) := by decide +kernel
set_option maxRecDepth 20000 in
theorem ggX8_unit_X8_isPlace : GoodIn wsX8_unit wsX8_isPlace := goodIn_r _ [6, 7, 12, 13, 14, 15, 16, 17, 18, 19, 20, 21, 22, 23, 24, 25, 26, 27] (by decide +kernel) (by decide +kernel)
set_option maxRecDepth 20000 in
theorem gX8_unit_X8_isPlace : GoodIn wsX8_unit (wsV RX8 63 RX8 yX8_isPlace wsX8_isPlace) := goodIn_app (goodIn_of _ (by decide +kernel)) ggX8_unit_X8_isPlace
set_option maxRecDepth 20000 in
theorem ggX8_unit_X8_placeOf : GoodIn wsX8_unit wsX8_placeOf := goodIn_r _ [11, 7, 12, 13, 14, 15, 16, 17, 18, 19, 20, 21, 22, 23, 24, 25, 26, 27] (by decide +kernel) (by decide +kernel)
set_option maxRecDepth 20000 in
theorem gX8_unit_X8_placeOf : GoodIn wsX8_unit (wsV RX8 67 RX8 yX8_placeOf wsX8_placeOf) := goodIn_app (goodIn_of _ (by decide +kernel)) ggX8_unit_X8_placeOf
theorem dX8_unit_0 : decode cX8_unit 0 = .ok (.aload_n 0, 1) := by decide +kernel
theorem dX8_unit_1 : decode cX8_unit 1 = .ok (.iload_n 1, 1) := by decide +kernel
theorem dX8_unit_2 : decode cX8_unit 2 = .ok (.iload_n 2, 1) := by decide +kernel
theorem dX8_unit_3 : decode cX8_unit 3 = .ok (.invokevirtual 63, 3) := by decide +kernel
theorem dX8_unit_6 : decode cX8_unit 6 = .ok (.ifCond .ne 5, 3) := by decide +kernel
theorem dX8_unit_9 : decode cX8_unit 9 = .ok (.iconst (-1), 1) := by decide +kernel
theorem dX8_unit_10 : decode cX8_unit 10 = .ok (.ireturn, 1) := by decide +kernel
theorem dX8_unit_11 : decode cX8_unit 11 = .ok (.aload_n 0, 1) := by decide +kernel
theorem dX8_unit_12 : decode cX8_unit 12 = .ok (.getfield 42, 3) := by decide +kernel
theorem dX8_unit_15 : decode cX8_unit 15 = .ok (.aload_n 0, 1) := by decide +kernel
theorem dX8_unit_16 : decode cX8_unit 16 = .ok (.iload_n 1, 1) := by decide +kernel
theorem dX8_unit_17 : decode cX8_unit 17 = .ok (.iload_n 2, 1) := by decide +kernel
theorem dX8_unit_18 : decode cX8_unit 18 = .ok (.invokevirtual 67, 3) := by decide +kernel
theorem dX8_unit_21 : decode cX8_unit 21 = .ok (.aaload, 1) := by decide +kernel
theorem dX8_unit_22 : decode cX8_unit 22 = .ok (.getfield 133, 3) := by decide +kernel
theorem dX8_unit_25 : decode cX8_unit 25 = .ok (.astore 4, 2) := by decide +kernel
theorem dX8_unit_27 : decode cX8_unit 27 = .ok (.iload_n 3, 1) := by decide +kernel
theorem dX8_unit_28 : decode cX8_unit 28 = .ok (.ifCond .lt 32, 3) := by decide +kernel
theorem dX8_unit_31 : decode cX8_unit 31 = .ok (.iload_n 3, 1) := by decide +kernel
theorem dX8_unit_32 : decode cX8_unit 32 = .ok (.aload 4, 2) := by decide +kernel
theorem dX8_unit_34 : decode cX8_unit 34 = .ok (.getfield 234, 3) := by decide +kernel
theorem dX8_unit_37 : decode cX8_unit 37 = .ok (.if_icmp .ge 23, 3) := by decide +kernel
theorem dX8_unit_40 : decode cX8_unit 40 = .ok (.iload_n 3, 1) := by decide +kernel
theorem dX8_unit_41 : decode cX8_unit 41 = .ok (.aload 4, 2) := by decide +kernel
theorem dX8_unit_43 : decode cX8_unit 43 = .ok (.getfield 237, 3) := by decide +kernel
theorem dX8_unit_46 : decode cX8_unit 46 = .ok (.arraylength, 1) := by decide +kernel
theorem dX8_unit_47 : decode cX8_unit 47 = .ok (.if_icmp .ge 13, 3) := by decide +kernel
theorem dX8_unit_50 : decode cX8_unit 50 = .ok (.aload 4, 2) := by decide +kernel
theorem dX8_unit_52 : decode cX8_unit 52 = .ok (.getfield 237, 3) := by decide +kernel
theorem dX8_unit_55 : decode cX8_unit 55 = .ok (.iload_n 3, 1) := by decide +kernel
theorem dX8_unit_56 : decode cX8_unit 56 = .ok (.iaload, 1) := by decide +kernel
theorem dX8_unit_57 : decode cX8_unit 57 = .ok (.goto 4, 3) := by decide +kernel
theorem dX8_unit_60 : decode cX8_unit 60 = .ok (.iconst (-1), 1) := by decide +kernel
theorem dX8_unit_61 : decode cX8_unit 61 = .ok (.ireturn, 1) := by decide +kernel
theorem dX8_process_0 : decode cX8_process 0 = .ok (.iload_n 1, 1) := by decide +kernel
theorem dX8_process_1 : decode cX8_process 1 = .ok (.ifCond .lt 17, 3) := by decide +kernel
theorem dX8_process_4 : decode cX8_process 4 = .ok (.iload_n 1, 1) := by decide +kernel
theorem dX8_process_5 : decode cX8_process 5 = .ok (.iconst 1, 1) := by decide +kernel
theorem dX8_process_6 : decode cX8_process 6 = .ok (.if_icmp .gt 12, 3) := by decide +kernel
theorem dX8_process_9 : decode cX8_process 9 = .ok (.iload_n 2, 1) := by decide +kernel
theorem dX8_process_10 : decode cX8_process 10 = .ok (.ifCond .lt 8, 3) := by decide +kernel
theorem dX8_process_13 : decode cX8_process 13 = .ok (.iload_n 2, 1) := by decide +kernel
theorem dX8_process_14 : decode cX8_process 14 = .ok (.iconst 4, 1) := by decide +kernel
theorem dX8_process_15 : decode cX8_process 15 = .ok (.if_icmp .lt 5, 3) := by decide +kernel
theorem dX8_process_18 : decode cX8_process 18 = .ok (.iconst (-1), 1) := by decide +kernel
theorem dX8_process_19 : decode cX8_process 19 = .ok (.ireturn, 1) := by decide +kernel
theorem dX8_process_20 : decode cX8_process 20 = .ok (.aload_n 0, 1) := by decide +kernel
theorem dX8_process_21 : decode cX8_process 21 = .ok (.getfield 52, 3) := by decide +kernel
theorem dX8_process_24 : decode cX8_process 24 = .ok (.iload_n 1, 1) := by decide +kernel
theorem dX8_process_25 : decode cX8_process 25 = .ok (.iconst 4, 1) := by decide +kernel
theorem dX8_process_26 : decode cX8_process 26 = .ok (.imul, 1) := by decide +kernel
theorem dX8_process_27 : decode cX8_process 27 = .ok (.iload_n 2, 1) := by decide +kernel
theorem dX8_process_28 : decode cX8_process 28 = .ok (.iadd, 1) := by decide +kernel
theorem dX8_process_29 : decode cX8_process 29 = .ok (.aaload, 1) := by decide +kernel
theorem dX8_process_30 : decode cX8_process 30 = .ok (.astore 4, 2) := by decide +kernel
theorem dX8_process_32 : decode cX8_process 32 = .ok (.iload_n 3, 1) := by decide +kernel
theorem dX8_process_33 : decode cX8_process 33 = .ok (.tableswitch 53 0 2 #[27, 33, 39], 27) := by decide +kernel
theorem dX8_process_60 : decode cX8_process 60 = .ok (.aload 4, 2) := by decide +kernel
theorem dX8_process_62 : decode cX8_process 62 = .ok (.getfield 94, 3) := by decide +kernel
theorem dX8_process_65 : decode cX8_process 65 = .ok (.ireturn, 1) := by decide +kernel
theorem dX8_process_66 : decode cX8_process 66 = .ok (.aload 4, 2) := by decide +kernel
theorem dX8_process_68 : decode cX8_process 68 = .ok (.getfield 101, 3) := by decide +kernel
theorem dX8_process_71 : decode cX8_process 71 = .ok (.ireturn, 1) := by decide +kernel
theorem dX8_process_72 : decode cX8_process 72 = .ok (.aload 4, 2) := by decide +kernel
theorem dX8_process_74 : decode cX8_process 74 = .ok (.getfield 240, 3) := by decide +kernel
theorem dX8_process_77 : decode cX8_process 77 = .ok (.ifCond .eq 7, 3) := by decide +kernel
theorem dX8_process_80 : decode cX8_process 80 = .ok (.iconst 1, 1) := by decide +kernel
theorem dX8_process_81 : decode cX8_process 81 = .ok (.goto 4, 3) := by decide +kernel
theorem dX8_process_84 : decode cX8_process 84 = .ok (.iconst 0, 1) := by decide +kernel
theorem dX8_process_85 : decode cX8_process 85 = .ok (.ireturn, 1) := by decide +kernel
theorem dX8_process_86 : decode cX8_process 86 = .ok (.iconst (-1), 1) := by decide +kernel
theorem dX8_process_87 : decode cX8_process 87 = .ok (.ireturn, 1) := by decide +kernel
theorem dX8_world_0 : decode cX8_world 0 = .ok (.iload_n 1, 1) := by decide +kernel
theorem dX8_world_1 : decode cX8_world 1 = .ok (.tableswitch 78 0 6 #[43, 48, 53, 58, 63, 68, 73], 43) := by decide +kernel
theorem dX8_world_44 : decode cX8_world 44 = .ok (.aload_n 0, 1) := by decide +kernel
theorem dX8_world_45 : decode cX8_world 45 = .ok (.getfield 84, 3) := by decide +kernel
theorem dX8_world_48 : decode cX8_world 48 = .ok (.ireturn, 1) := by decide +kernel
theorem dX8_world_49 : decode cX8_world 49 = .ok (.aload_n 0, 1) := by decide +kernel
theorem dX8_world_50 : decode cX8_world 50 = .ok (.getfield 130, 3) := by decide +kernel
theorem dX8_world_53 : decode cX8_world 53 = .ok (.ireturn, 1) := by decide +kernel
theorem dX8_world_54 : decode cX8_world 54 = .ok (.aload_n 0, 1) := by decide +kernel
theorem dX8_world_55 : decode cX8_world 55 = .ok (.getfield 243, 3) := by decide +kernel
theorem dX8_world_58 : decode cX8_world 58 = .ok (.ireturn, 1) := by decide +kernel
theorem dX8_world_59 : decode cX8_world 59 = .ok (.aload_n 0, 1) := by decide +kernel
theorem dX8_world_60 : decode cX8_world 60 = .ok (.getfield 244, 3) := by decide +kernel
theorem dX8_world_63 : decode cX8_world 63 = .ok (.ireturn, 1) := by decide +kernel
theorem dX8_world_64 : decode cX8_world 64 = .ok (.aload_n 0, 1) := by decide +kernel
theorem dX8_world_65 : decode cX8_world 65 = .ok (.getfield 247, 3) := by decide +kernel
theorem dX8_world_68 : decode cX8_world 68 = .ok (.ireturn, 1) := by decide +kernel
theorem dX8_world_69 : decode cX8_world 69 = .ok (.aload_n 0, 1) := by decide +kernel
theorem dX8_world_70 : decode cX8_world 70 = .ok (.getfield 250, 3) := by decide +kernel
theorem dX8_world_73 : decode cX8_world 73 = .ok (.ireturn, 1) := by decide +kernel
theorem dX8_world_74 : decode cX8_world 74 = .ok (.aload_n 0, 1) := by decide +kernel
theorem dX8_world_75 : decode cX8_world 75 = .ok (.getfield 253, 3) := by decide +kernel
theorem dX8_world_78 : decode cX8_world 78 = .ok (.ireturn, 1) := by decide +kernel
theorem dX8_world_79 : decode cX8_world 79 = .ok (.iconst (-1), 1) := by decide +kernel
theorem dX8_world_80 : decode cX8_world 80 = .ok (.ireturn, 1) := by decide +kernel
theorem dX8_isPlace_0 : decode cX8_isPlace 0 = .ok (.iload_n 1, 1) := by decide +kernel
theorem dX8_isPlace_1 : decode cX8_isPlace 1 = .ok (.ifCond .lt 24, 3) := by decide +kernel
theorem dX8_isPlace_4 : decode cX8_isPlace 4 = .ok (.iload_n 1, 1) := by decide +kernel
theorem dX8_isPlace_5 : decode cX8_isPlace 5 = .ok (.iconst 1, 1) := by decide +kernel
theorem dX8_isPlace_6 : decode cX8_isPlace 6 = .ok (.if_icmp .gt 19, 3) := by decide +kernel
theorem dX8_isPlace_9 : decode cX8_isPlace 9 = .ok (.iload_n 2, 1) := by decide +kernel
theorem dX8_isPlace_10 : decode cX8_isPlace 10 = .ok (.ifCond .lt 15, 3) := by decide +kernel
theorem dX8_isPlace_13 : decode cX8_isPlace 13 = .ok (.iload_n 2, 1) := by decide +kernel
theorem dX8_isPlace_14 : decode cX8_isPlace 14 = .ok (.aload_n 0, 1) := by decide +kernel
theorem dX8_isPlace_15 : decode cX8_isPlace 15 = .ok (.getfield 16, 3) := by decide +kernel
theorem dX8_isPlace_18 : decode cX8_isPlace 18 = .ok (.if_icmp .ge 7, 3) := by decide +kernel
theorem dX8_isPlace_21 : decode cX8_isPlace 21 = .ok (.iconst 1, 1) := by decide +kernel
theorem dX8_isPlace_22 : decode cX8_isPlace 22 = .ok (.goto 4, 3) := by decide +kernel
theorem dX8_isPlace_25 : decode cX8_isPlace 25 = .ok (.iconst 0, 1) := by decide +kernel
theorem dX8_isPlace_26 : decode cX8_isPlace 26 = .ok (.ireturn, 1) := by decide +kernel
theorem dX8_placeOf_0 : decode cX8_placeOf 0 = .ok (.iload_n 1, 1) := by decide +kernel
theorem dX8_placeOf_1 : decode cX8_placeOf 1 = .ok (.aload_n 0, 1) := by decide +kernel
theorem dX8_placeOf_2 : decode cX8_placeOf 2 = .ok (.getfield 16, 3) := by decide +kernel
theorem dX8_placeOf_5 : decode cX8_placeOf 5 = .ok (.imul, 1) := by decide +kernel
theorem dX8_placeOf_6 : decode cX8_placeOf 6 = .ok (.iload_n 2, 1) := by decide +kernel
theorem dX8_placeOf_7 : decode cX8_placeOf 7 = .ok (.iadd, 1) := by decide +kernel
theorem dX8_placeOf_8 : decode cX8_placeOf 8 = .ok (.ireturn, 1) := by decide +kernel
set_option maxRecDepth 20000 in
theorem ggX8_fillBlock_X8_placeOf : GoodIn wsX8_fillBlock wsX8_placeOf := goodIn_r _ [11, 1, 207, 208, 209, 210, 211, 212, 213, 214, 215, 216, 217, 218, 219, 220, 221, 222] (by decide +kernel) (by decide +kernel)
set_option maxRecDepth 20000 in
theorem gX8_fillBlock_X8_placeOf : GoodIn wsX8_fillBlock (wsV RX8 67 RX8 yX8_placeOf wsX8_placeOf) := goodIn_app (goodIn_of _ (by decide +kernel)) ggX8_fillBlock_X8_placeOf
set_option maxRecDepth 20000 in
theorem ggX8_fillBlock_X8_makePart : GoodIn wsX8_fillBlock wsX8_makePart := goodIn_r _ [15, 2, 16, 17, 7, 8, 9, 10, 11, 1, 18, 19, 20, 21, 22, 23, 24, 25, 26, 27, 28, 29, 30, 31, 32, 33, 34, 35, 36, 37, 38, 39, 40, 41, 42, 43, 44, 45, 46, 47, 48, 49, 50, 51, 52, 53, 54, 55, 56, 57, 58, 59, 60, 61, 5, 62, 63, 64, 65, 66, 67, 68, 69, 70, 71, 72, 73, 74, 75, 76, 77, 78, 79, 80, 81, 82, 83, 84, 85, 86, 87, 88, 89, 90, 91, 92, 93, 94, 95, 96, 97, 98, 99, 100, 101, 102, 103, 104, 105, 106, 107, 108, 109, 110, 111, 112, 113, 114, 115, 116, 117, 118, 119, 120, 121, 122, 123, 124, 125, 126, 127, 128, 129, 130, 131, 132, 133, 134, 135, 136, 137, 138, 139, 140, 141, 142, 143, 144, 145, 146, 147, 148, 149, 150, 151, 152, 153, 154, 155, 156, 157, 158, 159, 160, 161, 162, 163, 164, 165, 166, 167, 168, 169, 170, 171, 172, 173, 174, 175, 176, 177, 178, 179, 180, 181, 182, 183, 184, 185, 186, 187, 188, 189, 190, 191, 192, 193, 194, 195, 196, 197, 207, 208, 209, 210, 211, 212, 213, 214, 215, 216, 217, 218, 219, 220, 221, 222, 205, 206, 238, 239, 240, 241, 242, 243, 244, 245, 246, 247, 248, 249, 250, 223, 224, 225, 226, 227, 228, 229, 230, 231, 232, 233, 234, 235, 236, 237, 251, 252, 253, 254, 255, 256, 257, 258, 259, 260, 261, 262, 263, 264, 265, 266, 267, 268, 269, 270, 271, 272, 273, 274] (by decide +kernel) (by decide +kernel)
set_option maxRecDepth 20000 in
theorem gX8_fillBlock_X8_makePart : GoodIn wsX8_fillBlock (wsV RX8 262 RX8 yX8_makePart wsX8_makePart) := goodIn_app (goodIn_of _ (by decide +kernel)) ggX8_fillBlock_X8_makePart
set_option maxRecDepth 20000 in
theorem ggX8_fillBlock_X8_fillUp : GoodIn wsX8_fillBlock wsX8_fillUp := goodIn_r _ [200, 18, 19, 20, 21, 22, 23, 24, 205, 206] (by decide +kernel) (by decide +kernel)
set_option maxRecDepth 20000 in
theorem gX8_fillBlock_X8_fillUp : GoodIn wsX8_fillBlock (va_wsS RX8 266 yX8_fillUp wsX8_fillUp) := goodIn_app (goodIn_of _ (by decide +kernel)) ggX8_fillBlock_X8_fillUp
theorem dX8_fillBlock_0 : decode cX8_fillBlock 0 = .ok (.aload_n 2, 1) := by decide +kernel
theorem dX8_fillBlock_1 : decode cX8_fillBlock 1 = .ok (.getfield 108, 3) := by decide +kernel
theorem dX8_fillBlock_4 : decode cX8_fillBlock 4 = .ok (.astore 4, 2) := by decide +kernel
theorem dX8_fillBlock_6 : decode cX8_fillBlock 6 = .ok (.aload 4, 2) := by decide +kernel
theorem dX8_fillBlock_8 : decode cX8_fillBlock 8 = .ok (.iconst 0, 1) := by decide +kernel
theorem dX8_fillBlock_9 : decode cX8_fillBlock 9 = .ok (.putfield 256, 3) := by decide +kernel
theorem dX8_fillBlock_12 : decode cX8_fillBlock 12 = .ok (.iconst 0, 1) := by decide +kernel
theorem dX8_fillBlock_13 : decode cX8_fillBlock 13 = .ok (.istore 5, 2) := by decide +kernel
theorem dX8_fillBlock_15 : decode cX8_fillBlock 15 = .ok (.iload 5, 2) := by decide +kernel
theorem dX8_fillBlock_17 : decode cX8_fillBlock 17 = .ok (.iconst 2, 1) := by decide +kernel
theorem dX8_fillBlock_18 : decode cX8_fillBlock 18 = .ok (.aload_n 0, 1) := by decide +kernel
theorem dX8_fillBlock_19 : decode cX8_fillBlock 19 = .ok (.getfield 16, 3) := by decide +kernel
theorem dX8_fillBlock_22 : decode cX8_fillBlock 22 = .ok (.imul, 1) := by decide +kernel
theorem dX8_fillBlock_23 : decode cX8_fillBlock 23 = .ok (.if_icmp .ge 143, 3) := by decide +kernel
theorem dX8_fillBlock_26 : decode cX8_fillBlock 26 = .ok (.iload 5, 2) := by decide +kernel
theorem dX8_fillBlock_28 : decode cX8_fillBlock 28 = .ok (.aload_n 0, 1) := by decide +kernel
theorem dX8_fillBlock_29 : decode cX8_fillBlock 29 = .ok (.getfield 16, 3) := by decide +kernel
theorem dX8_fillBlock_32 : decode cX8_fillBlock 32 = .ok (.if_icmp .ge 7, 3) := by decide +kernel
theorem dX8_fillBlock_35 : decode cX8_fillBlock 35 = .ok (.iconst 1, 1) := by decide +kernel
theorem dX8_fillBlock_36 : decode cX8_fillBlock 36 = .ok (.goto 4, 3) := by decide +kernel
theorem dX8_fillBlock_39 : decode cX8_fillBlock 39 = .ok (.iconst 0, 1) := by decide +kernel
theorem dX8_fillBlock_40 : decode cX8_fillBlock 40 = .ok (.istore 6, 2) := by decide +kernel
theorem dX8_fillBlock_42 : decode cX8_fillBlock 42 = .ok (.iload 6, 2) := by decide +kernel
theorem dX8_fillBlock_44 : decode cX8_fillBlock 44 = .ok (.ifCond .eq 8, 3) := by decide +kernel
theorem dX8_fillBlock_47 : decode cX8_fillBlock 47 = .ok (.iload 5, 2) := by decide +kernel
theorem dX8_fillBlock_49 : decode cX8_fillBlock 49 = .ok (.goto 10, 3) := by decide +kernel
theorem dX8_fillBlock_52 : decode cX8_fillBlock 52 = .ok (.iload 5, 2) := by decide +kernel
theorem dX8_fillBlock_54 : decode cX8_fillBlock 54 = .ok (.aload_n 0, 1) := by decide +kernel
theorem dX8_fillBlock_55 : decode cX8_fillBlock 55 = .ok (.getfield 16, 3) := by decide +kernel
theorem dX8_fillBlock_58 : decode cX8_fillBlock 58 = .ok (.isub, 1) := by decide +kernel
theorem dX8_fillBlock_59 : decode cX8_fillBlock 59 = .ok (.istore 7, 2) := by decide +kernel
theorem dX8_fillBlock_61 : decode cX8_fillBlock 61 = .ok (.aload_n 0, 1) := by decide +kernel
theorem dX8_fillBlock_62 : decode cX8_fillBlock 62 = .ok (.getfield 36, 3) := by decide +kernel
theorem dX8_fillBlock_65 : decode cX8_fillBlock 65 = .ok (.aload_n 0, 1) := by decide +kernel
theorem dX8_fillBlock_66 : decode cX8_fillBlock 66 = .ok (.iload_n 1, 1) := by decide +kernel
theorem dX8_fillBlock_67 : decode cX8_fillBlock 67 = .ok (.iload 7, 2) := by decide +kernel
theorem dX8_fillBlock_69 : decode cX8_fillBlock 69 = .ok (.invokevirtual 67, 3) := by decide +kernel
theorem dX8_fillBlock_72 : decode cX8_fillBlock 72 = .ok (.aaload, 1) := by decide +kernel
theorem dX8_fillBlock_73 : decode cX8_fillBlock 73 = .ok (.astore 8, 2) := by decide +kernel
theorem dX8_fillBlock_75 : decode cX8_fillBlock 75 = .ok (.iconst 1, 1) := by decide +kernel
theorem dX8_fillBlock_76 : decode cX8_fillBlock 76 = .ok (.istore 9, 2) := by decide +kernel
theorem dX8_fillBlock_78 : decode cX8_fillBlock 78 = .ok (.iconst 0, 1) := by decide +kernel
theorem dX8_fillBlock_79 : decode cX8_fillBlock 79 = .ok (.istore 10, 2) := by decide +kernel
theorem dX8_fillBlock_81 : decode cX8_fillBlock 81 = .ok (.iload 10, 2) := by decide +kernel
theorem dX8_fillBlock_83 : decode cX8_fillBlock 83 = .ok (.sipush 250, 3) := by decide +kernel
theorem dX8_fillBlock_86 : decode cX8_fillBlock 86 = .ok (.if_icmp .ge 74, 3) := by decide +kernel
theorem dX8_fillBlock_89 : decode cX8_fillBlock 89 = .ok (.iload 9, 2) := by decide +kernel
theorem dX8_fillBlock_91 : decode cX8_fillBlock 91 = .ok (.ifCond .eq 69, 3) := by decide +kernel
theorem dX8_fillBlock_94 : decode cX8_fillBlock 94 = .ok (.iload_n 3, 1) := by decide +kernel
theorem dX8_fillBlock_95 : decode cX8_fillBlock 95 = .ok (.aload 4, 2) := by decide +kernel
theorem dX8_fillBlock_97 : decode cX8_fillBlock 97 = .ok (.getfield 256, 3) := by decide +kernel
theorem dX8_fillBlock_100 : decode cX8_fillBlock 100 = .ok (.isub, 1) := by decide +kernel
theorem dX8_fillBlock_101 : decode cX8_fillBlock 101 = .ok (.istore 11, 2) := by decide +kernel
theorem dX8_fillBlock_103 : decode cX8_fillBlock 103 = .ok (.iload 6, 2) := by decide +kernel
theorem dX8_fillBlock_105 : decode cX8_fillBlock 105 = .ok (.ifCond .eq 16, 3) := by decide +kernel
theorem dX8_fillBlock_108 : decode cX8_fillBlock 108 = .ok (.iload 11, 2) := by decide +kernel
theorem dX8_fillBlock_110 : decode cX8_fillBlock 110 = .ok (.aload 8, 2) := by decide +kernel
theorem dX8_fillBlock_112 : decode cX8_fillBlock 112 = .ok (.getfield 170, 3) := by decide +kernel
theorem dX8_fillBlock_115 : decode cX8_fillBlock 115 = .ok (.invokestatic 257, 3) := by decide +kernel
theorem dX8_fillBlock_118 : decode cX8_fillBlock 118 = .ok (.goto 5, 3) := by decide +kernel
theorem dX8_fillBlock_121 : decode cX8_fillBlock 121 = .ok (.iload 11, 2) := by decide +kernel
theorem dX8_fillBlock_123 : decode cX8_fillBlock 123 = .ok (.iconst 2, 1) := by decide +kernel
theorem dX8_fillBlock_124 : decode cX8_fillBlock 124 = .ok (.isub, 1) := by decide +kernel
theorem dX8_fillBlock_125 : decode cX8_fillBlock 125 = .ok (.istore 12, 2) := by decide +kernel
theorem dX8_fillBlock_127 : decode cX8_fillBlock 127 = .ok (.iload 12, 2) := by decide +kernel
theorem dX8_fillBlock_129 : decode cX8_fillBlock 129 = .ok (.iconst 1, 1) := by decide +kernel
theorem dX8_fillBlock_130 : decode cX8_fillBlock 130 = .ok (.if_icmp .lt 21, 3) := by decide +kernel
theorem dX8_fillBlock_133 : decode cX8_fillBlock 133 = .ok (.aload_n 0, 1) := by decide +kernel
theorem dX8_fillBlock_134 : decode cX8_fillBlock 134 = .ok (.iload_n 1, 1) := by decide +kernel
theorem dX8_fillBlock_135 : decode cX8_fillBlock 135 = .ok (.iload 7, 2) := by decide +kernel
theorem dX8_fillBlock_137 : decode cX8_fillBlock 137 = .ok (.iload 12, 2) := by decide +kernel
theorem dX8_fillBlock_139 : decode cX8_fillBlock 139 = .ok (.aload 4, 2) := by decide +kernel
theorem dX8_fillBlock_141 : decode cX8_fillBlock 141 = .ok (.invokevirtual 262, 3) := by decide +kernel
theorem dX8_fillBlock_144 : decode cX8_fillBlock 144 = .ok (.ifCond .eq 7, 3) := by decide +kernel
theorem dX8_fillBlock_147 : decode cX8_fillBlock 147 = .ok (.iconst 1, 1) := by decide +kernel
theorem dX8_fillBlock_148 : decode cX8_fillBlock 148 = .ok (.goto 4, 3) := by decide +kernel
theorem dX8_fillBlock_151 : decode cX8_fillBlock 151 = .ok (.iconst 0, 1) := by decide +kernel
theorem dX8_fillBlock_152 : decode cX8_fillBlock 152 = .ok (.istore 9, 2) := by decide +kernel
theorem dX8_fillBlock_154 : decode cX8_fillBlock 154 = .ok (.iinc 10 1, 3) := by decide +kernel
theorem dX8_fillBlock_157 : decode cX8_fillBlock 157 = .ok (.goto (-76), 3) := by decide +kernel
theorem dX8_fillBlock_160 : decode cX8_fillBlock 160 = .ok (.iinc 5 1, 3) := by decide +kernel
theorem dX8_fillBlock_163 : decode cX8_fillBlock 163 = .ok (.goto (-148), 3) := by decide +kernel
theorem dX8_fillBlock_166 : decode cX8_fillBlock 166 = .ok (.aload 4, 2) := by decide +kernel
theorem dX8_fillBlock_168 : decode cX8_fillBlock 168 = .ok (.getfield 256, 3) := by decide +kernel
theorem dX8_fillBlock_171 : decode cX8_fillBlock 171 = .ok (.ifCond .le 14, 3) := by decide +kernel
theorem dX8_fillBlock_174 : decode cX8_fillBlock 174 = .ok (.aload 4, 2) := by decide +kernel
theorem dX8_fillBlock_176 : decode cX8_fillBlock 176 = .ok (.iload_n 3, 1) := by decide +kernel
theorem dX8_fillBlock_177 : decode cX8_fillBlock 177 = .ok (.invokestatic 266, 3) := by decide +kernel
theorem dX8_fillBlock_180 : decode cX8_fillBlock 180 = .ok (.aload_n 2, 1) := by decide +kernel
theorem dX8_fillBlock_181 : decode cX8_fillBlock 181 = .ok (.iload_n 3, 1) := by decide +kernel
theorem dX8_fillBlock_182 : decode cX8_fillBlock 182 = .ok (.putfield 101, 3) := by decide +kernel
theorem dX8_fillBlock_185 : decode cX8_fillBlock 185 = .ok (.return_, 1) := by decide +kernel
set_option maxRecDepth 20000 in
theorem ggX8_fillUp_X0_put : GoodIn wsX8_fillUp wsX0_put := goodIn_r _ [5, 6, 7, 8, 9] (by decide +kernel) (by decide +kernel)
set_option maxRecDepth 20000 in
theorem gX8_fillUp_X0_put : GoodIn wsX8_fillUp (wsV RX8 270 RX0 yX0_put wsX0_put) := goodIn_app (goodIn_of _ (by decide +kernel)) ggX8_fillUp_X0_put
theorem dX8_fillUp_0 : decode cX8_fillUp 0 = .ok (.aload_n 0, 1) := by decide +kernel
theorem dX8_fillUp_1 : decode cX8_fillUp 1 = .ok (.getfield 256, 3) := by decide +kernel
theorem dX8_fillUp_4 : decode cX8_fillUp 4 = .ok (.iload_n 1, 1) := by decide +kernel
theorem dX8_fillUp_5 : decode cX8_fillUp 5 = .ok (.if_icmp .ge 10, 3) := by decide +kernel
theorem dX8_fillUp_8 : decode cX8_fillUp 8 = .ok (.aload_n 0, 1) := by decide +kernel
theorem dX8_fillUp_9 : decode cX8_fillUp 9 = .ok (.sipush 255, 3) := by decide +kernel
theorem dX8_fillUp_12 : decode cX8_fillUp 12 = .ok (.invokevirtual 270, 3) := by decide +kernel
theorem dX8_fillUp_15 : decode cX8_fillUp 15 = .ok (.aload_n 0, 1) := by decide +kernel
theorem dX8_fillUp_16 : decode cX8_fillUp 16 = .ok (.getfield 256, 3) := by decide +kernel
theorem dX8_fillUp_19 : decode cX8_fillUp 19 = .ok (.istore_n 2, 1) := by decide +kernel
theorem dX8_fillUp_20 : decode cX8_fillUp 20 = .ok (.iload_n 2, 1) := by decide +kernel
theorem dX8_fillUp_21 : decode cX8_fillUp 21 = .ok (.iload_n 1, 1) := by decide +kernel
theorem dX8_fillUp_22 : decode cX8_fillUp 22 = .ok (.if_icmp .ge 14, 3) := by decide +kernel
theorem dX8_fillUp_25 : decode cX8_fillUp 25 = .ok (.aload_n 0, 1) := by decide +kernel
theorem dX8_fillUp_26 : decode cX8_fillUp 26 = .ok (.iconst 0, 1) := by decide +kernel
theorem dX8_fillUp_27 : decode cX8_fillUp 27 = .ok (.invokevirtual 270, 3) := by decide +kernel
theorem dX8_fillUp_30 : decode cX8_fillUp 30 = .ok (.iinc 2 1, 3) := by decide +kernel
theorem dX8_fillUp_33 : decode cX8_fillUp 33 = .ok (.goto (-13), 3) := by decide +kernel
theorem dX8_fillUp_36 : decode cX8_fillUp 36 = .ok (.return_, 1) := by decide +kernel
set_option maxRecDepth 20000 in
theorem ggX8_makePart_X8_placeOf : GoodIn wsX8_makePart wsX8_placeOf := goodIn_r _ [8, 9, 191, 192, 193, 194, 195, 196, 197, 198, 199, 200, 201, 202, 203, 204, 205, 206] (by decide +kernel) (by decide +kernel)
set_option maxRecDepth 20000 in
theorem gX8_makePart_X8_placeOf : GoodIn wsX8_makePart (wsV RX8 67 RX8 yX8_placeOf wsX8_placeOf) := goodIn_app (goodIn_of _ (by decide +kernel)) ggX8_makePart_X8_placeOf
set_option maxRecDepth 20000 in
theorem ggX8_makePart_X0_put : GoodIn wsX8_makePart wsX0_put := goodIn_r _ [14, 15, 16, 207, 208] (by decide +kernel) (by decide +kernel)
set_option maxRecDepth 20000 in
theorem gX8_makePart_X0_put : GoodIn wsX8_makePart (wsV RX8 270 RX0 yX0_put wsX0_put) := goodIn_app (goodIn_of _ (by decide +kernel)) ggX8_makePart_X0_put
set_option maxRecDepth 20000 in
theorem ggX8_makePart_X6_makeStatus : GoodIn wsX8_makePart wsX6_makeStatus := goodIn_r _ [21, 22, 23, 24, 25, 26, 27, 11, 12, 13, 14, 15, 16, 28, 29, 30, 20, 31, 32, 33, 34, 35, 36, 37, 38, 39, 40, 41, 42, 43, 44, 45, 46, 47, 48, 49, 50, 51, 52, 53, 54, 55, 56, 57, 58, 59, 60, 61, 62, 63, 64, 65, 207, 208, 209, 210, 211, 212, 213, 214, 215, 216, 217, 218, 219, 220, 221, 237, 238, 239, 240, 241, 242] (by decide +kernel) (by decide +kernel)
set_option maxRecDepth 20000 in
theorem gX8_makePart_X6_makeStatus : GoodIn wsX8_makePart (wsV RX8 273 RX6 yX6_makeStatus wsX6_makeStatus) := goodIn_app (goodIn_of _ (by decide +kernel)) ggX8_makePart_X6_makeStatus
set_option maxRecDepth 20000 in
theorem ggX8_makePart_X7_makeAgain : GoodIn wsX8_makePart wsX7_makeAgain := goodIn_r _ [70, 71, 72, 73, 74, 75, 76, 69, 77, 78, 79, 49, 50, 41, 51, 52, 53, 54, 55, 56, 80, 81, 82, 83, 84, 85, 86, 87, 88, 89, 90, 91, 92, 93, 94, 95, 96, 97, 98, 99, 100, 101, 102, 103, 104, 105, 106, 107, 108, 109, 110, 111, 47, 112, 61, 11, 12, 13, 14, 15, 16, 113, 114, 115, 116, 117, 118, 119, 120, 222, 223, 224, 225, 226, 227, 228, 229, 230, 231, 232, 233, 234, 235, 236, 237, 238, 239, 240, 241, 242, 243, 244, 245, 246, 247, 248, 249, 250, 251, 252, 253, 254, 255, 256, 257, 207, 208] (by decide +kernel) (by decide +kernel)
set_option maxRecDepth 20000 in
theorem gX8_makePart_X7_makeAgain : GoodIn wsX8_makePart (wsV RX8 276 RX7 yX7_makeAgain wsX7_makeAgain) := goodIn_app (goodIn_of _ (by decide +kernel)) ggX8_makePart_X7_makeAgain
set_option maxRecDepth 20000 in
theorem ggX8_makePart_X7_makeNew : GoodIn wsX8_makePart wsX7_makeNew := goodIn_r _ [124, 102, 103, 71, 74, 75, 76, 69, 77, 78, 125, 126, 127, 41, 128, 56, 47, 96, 129, 130, 131, 132, 133, 134, 135, 136, 85, 86, 87, 137, 138, 139, 140, 141, 142, 143, 144, 145, 146, 147, 148, 149, 150, 151, 152, 153, 154, 155, 156, 157, 158, 159, 160, 161, 162, 163, 164, 165, 166, 167, 168, 169, 170, 171, 172, 173, 174, 175, 176, 177, 178, 179, 180, 181, 182, 183, 184, 185, 53, 54, 55, 186, 187, 188, 189, 97, 98, 99, 100, 101, 72, 104, 105, 106, 107, 108, 109, 110, 111, 112, 81, 82, 83, 84, 61, 11, 12, 13, 14, 15, 16, 113, 114, 115, 116, 117, 118, 119, 120, 222, 223, 224, 225, 226, 227, 228, 229, 230, 231, 232, 233, 234, 235, 236, 243, 244, 245, 246, 247, 248, 249, 250, 251, 252, 253, 254, 255, 256, 257, 237, 238, 239, 240, 241, 242, 258, 259, 260, 207, 208] (by decide +kernel) (by decide +kernel)
set_option maxRecDepth 20000 in
theorem gX8_makePart_X7_makeNew : GoodIn wsX8_makePart (wsV RX8 279 RX7 yX7_makeNew wsX7_makeNew) := goodIn_app (goodIn_of _ (by decide +kernel)) ggX8_makePart_X7_makeNew
set_option maxRecDepth 20000 in
theorem ggX8_makePart_X0_set : GoodIn wsX8_makePart wsX0_set := goodIn_r _ [65, 15, 16, 207, 208] (by decide +kernel) (by decide +kernel)
set_option maxRecDepth 20000 in
theorem gX8_makePart_X0_set : GoodIn wsX8_makePart (wsV RX8 283 RX0 yX0_set wsX0_set) := goodIn_app (goodIn_of _ (by decide +kernel)) ggX8_makePart_X0_set
theorem dX8_makePart_0 : decode cX8_makePart 0 = .ok (.aload_n 0, 1) := by decide +kernel
theorem dX8_makePart_1 : decode cX8_makePart 1 = .ok (.getfield 36, 3) := by decide +kernel
theorem dX8_makePart_4 : decode cX8_makePart 4 = .ok (.aload_n 0, 1) := by decide +kernel
theorem dX8_makePart_5 : decode cX8_makePart 5 = .ok (.iload_n 1, 1) := by decide +kernel
theorem dX8_makePart_6 : decode cX8_makePart 6 = .ok (.iload_n 2, 1) := by decide +kernel
theorem dX8_makePart_7 : decode cX8_makePart 7 = .ok (.invokevirtual 67, 3) := by decide +kernel
theorem dX8_makePart_10 : decode cX8_makePart 10 = .ok (.aaload, 1) := by decide +kernel
theorem dX8_makePart_11 : decode cX8_makePart 11 = .ok (.astore 5, 2) := by decide +kernel
theorem dX8_makePart_13 : decode cX8_makePart 13 = .ok (.aload_n 0, 1) := by decide +kernel
theorem dX8_makePart_14 : decode cX8_makePart 14 = .ok (.getfield 42, 3) := by decide +kernel
theorem dX8_makePart_17 : decode cX8_makePart 17 = .ok (.aload_n 0, 1) := by decide +kernel
theorem dX8_makePart_18 : decode cX8_makePart 18 = .ok (.iload_n 1, 1) := by decide +kernel
theorem dX8_makePart_19 : decode cX8_makePart 19 = .ok (.iload_n 2, 1) := by decide +kernel
theorem dX8_makePart_20 : decode cX8_makePart 20 = .ok (.invokevirtual 67, 3) := by decide +kernel
theorem dX8_makePart_23 : decode cX8_makePart 23 = .ok (.aaload, 1) := by decide +kernel
theorem dX8_makePart_24 : decode cX8_makePart 24 = .ok (.astore 6, 2) := by decide +kernel
theorem dX8_makePart_26 : decode cX8_makePart 26 = .ok (.aload 4, 2) := by decide +kernel
theorem dX8_makePart_28 : decode cX8_makePart 28 = .ok (.getfield 256, 3) := by decide +kernel
theorem dX8_makePart_31 : decode cX8_makePart 31 = .ok (.istore 7, 2) := by decide +kernel
theorem dX8_makePart_33 : decode cX8_makePart 33 = .ok (.aload 4, 2) := by decide +kernel
theorem dX8_makePart_35 : decode cX8_makePart 35 = .ok (.iload_n 2, 1) := by decide +kernel
theorem dX8_makePart_36 : decode cX8_makePart 36 = .ok (.invokevirtual 270, 3) := by decide +kernel
theorem dX8_makePart_39 : decode cX8_makePart 39 = .ok (.aload 4, 2) := by decide +kernel
theorem dX8_makePart_41 : decode cX8_makePart 41 = .ok (.iconst 0, 1) := by decide +kernel
theorem dX8_makePart_42 : decode cX8_makePart 42 = .ok (.invokevirtual 270, 3) := by decide +kernel
theorem dX8_makePart_45 : decode cX8_makePart 45 = .ok (.aload 6, 2) := by decide +kernel
theorem dX8_makePart_47 : decode cX8_makePart 47 = .ok (.getfield 201, 3) := by decide +kernel
theorem dX8_makePart_50 : decode cX8_makePart 50 = .ok (.ifCond .eq 27, 3) := by decide +kernel
theorem dX8_makePart_53 : decode cX8_makePart 53 = .ok (.aload 6, 2) := by decide +kernel
theorem dX8_makePart_55 : decode cX8_makePart 55 = .ok (.getfield 198, 3) := by decide +kernel
theorem dX8_makePart_58 : decode cX8_makePart 58 = .ok (.ifCond .ne 19, 3) := by decide +kernel
theorem dX8_makePart_61 : decode cX8_makePart 61 = .ok (.iload_n 3, 1) := by decide +kernel
theorem dX8_makePart_62 : decode cX8_makePart 62 = .ok (.iconst 2, 1) := by decide +kernel
theorem dX8_makePart_63 : decode cX8_makePart 63 = .ok (.if_icmp .lt 14, 3) := by decide +kernel
theorem dX8_makePart_66 : decode cX8_makePart 66 = .ok (.aload 6, 2) := by decide +kernel
theorem dX8_makePart_68 : decode cX8_makePart 68 = .ok (.aload 4, 2) := by decide +kernel
theorem dX8_makePart_70 : decode cX8_makePart 70 = .ok (.iload_n 3, 1) := by decide +kernel
theorem dX8_makePart_71 : decode cX8_makePart 71 = .ok (.invokevirtual 273, 3) := by decide +kernel
theorem dX8_makePart_74 : decode cX8_makePart 74 = .ok (.goto 50, 3) := by decide +kernel
theorem dX8_makePart_77 : decode cX8_makePart 77 = .ok (.aload 5, 2) := by decide +kernel
theorem dX8_makePart_79 : decode cX8_makePart 79 = .ok (.getfield 166, 3) := by decide +kernel
theorem dX8_makePart_82 : decode cX8_makePart 82 = .ok (.ifCond .ne 22, 3) := by decide +kernel
theorem dX8_makePart_85 : decode cX8_makePart 85 = .ok (.aload 5, 2) := by decide +kernel
theorem dX8_makePart_87 : decode cX8_makePart 87 = .ok (.getfield 160, 3) := by decide +kernel
theorem dX8_makePart_90 : decode cX8_makePart 90 = .ok (.ifCond .le 14, 3) := by decide +kernel
theorem dX8_makePart_93 : decode cX8_makePart 93 = .ok (.aload 5, 2) := by decide +kernel
theorem dX8_makePart_95 : decode cX8_makePart 95 = .ok (.aload 4, 2) := by decide +kernel
theorem dX8_makePart_97 : decode cX8_makePart 97 = .ok (.iload_n 3, 1) := by decide +kernel
theorem dX8_makePart_98 : decode cX8_makePart 98 = .ok (.invokevirtual 276, 3) := by decide +kernel
theorem dX8_makePart_101 : decode cX8_makePart 101 = .ok (.goto 23, 3) := by decide +kernel
theorem dX8_makePart_104 : decode cX8_makePart 104 = .ok (.aload 5, 2) := by decide +kernel
theorem dX8_makePart_106 : decode cX8_makePart 106 = .ok (.getfield 166, 3) := by decide +kernel
theorem dX8_makePart_109 : decode cX8_makePart 109 = .ok (.ifCond .ne 15, 3) := by decide +kernel
theorem dX8_makePart_112 : decode cX8_makePart 112 = .ok (.aload 5, 2) := by decide +kernel
theorem dX8_makePart_114 : decode cX8_makePart 114 = .ok (.aload 4, 2) := by decide +kernel
theorem dX8_makePart_116 : decode cX8_makePart 116 = .ok (.iload_n 3, 1) := by decide +kernel
theorem dX8_makePart_117 : decode cX8_makePart 117 = .ok (.aload_n 0, 1) := by decide +kernel
theorem dX8_makePart_118 : decode cX8_makePart 118 = .ok (.getfield 26, 3) := by decide +kernel
theorem dX8_makePart_121 : decode cX8_makePart 121 = .ok (.invokevirtual 279, 3) := by decide +kernel
theorem dX8_makePart_124 : decode cX8_makePart 124 = .ok (.aload 4, 2) := by decide +kernel
theorem dX8_makePart_126 : decode cX8_makePart 126 = .ok (.getfield 256, 3) := by decide +kernel
theorem dX8_makePart_129 : decode cX8_makePart 129 = .ok (.iload 7, 2) := by decide +kernel
theorem dX8_makePart_131 : decode cX8_makePart 131 = .ok (.isub, 1) := by decide +kernel
theorem dX8_makePart_132 : decode cX8_makePart 132 = .ok (.iconst 2, 1) := by decide +kernel
theorem dX8_makePart_133 : decode cX8_makePart 133 = .ok (.isub, 1) := by decide +kernel
theorem dX8_makePart_134 : decode cX8_makePart 134 = .ok (.istore 8, 2) := by decide +kernel
theorem dX8_makePart_136 : decode cX8_makePart 136 = .ok (.iload 8, 2) := by decide +kernel
theorem dX8_makePart_138 : decode cX8_makePart 138 = .ok (.ifCond .ne 12, 3) := by decide +kernel
theorem dX8_makePart_141 : decode cX8_makePart 141 = .ok (.aload 4, 2) := by decide +kernel
theorem dX8_makePart_143 : decode cX8_makePart 143 = .ok (.iload 7, 2) := by decide +kernel
theorem dX8_makePart_145 : decode cX8_makePart 145 = .ok (.putfield 256, 3) := by decide +kernel
theorem dX8_makePart_148 : decode cX8_makePart 148 = .ok (.iconst 0, 1) := by decide +kernel
theorem dX8_makePart_149 : decode cX8_makePart 149 = .ok (.ireturn, 1) := by decide +kernel
theorem dX8_makePart_150 : decode cX8_makePart 150 = .ok (.aload 4, 2) := by decide +kernel
theorem dX8_makePart_152 : decode cX8_makePart 152 = .ok (.iload 7, 2) := by decide +kernel
theorem dX8_makePart_154 : decode cX8_makePart 154 = .ok (.iconst 1, 1) := by decide +kernel
theorem dX8_makePart_155 : decode cX8_makePart 155 = .ok (.iadd, 1) := by decide +kernel
theorem dX8_makePart_156 : decode cX8_makePart 156 = .ok (.iload 8, 2) := by decide +kernel
theorem dX8_makePart_158 : decode cX8_makePart 158 = .ok (.invokevirtual 283, 3) := by decide +kernel
theorem dX8_makePart_161 : decode cX8_makePart 161 = .ok (.aload 5, 2) := by decide +kernel
theorem dX8_makePart_163 : decode cX8_makePart 163 = .ok (.dup, 1) := by decide +kernel
theorem dX8_makePart_164 : decode cX8_makePart 164 = .ok (.getfield 170, 3) := by decide +kernel
theorem dX8_makePart_167 : decode cX8_makePart 167 = .ok (.iload 8, 2) := by decide +kernel
theorem dX8_makePart_169 : decode cX8_makePart 169 = .ok (.iconst 2, 1) := by decide +kernel
theorem dX8_makePart_170 : decode cX8_makePart 170 = .ok (.iadd, 1) := by decide +kernel
theorem dX8_makePart_171 : decode cX8_makePart 171 = .ok (.isub, 1) := by decide +kernel
theorem dX8_makePart_172 : decode cX8_makePart 172 = .ok (.putfield 170, 3) := by decide +kernel
theorem dX8_makePart_175 : decode cX8_makePart 175 = .ok (.iconst 1, 1) := by decide +kernel
theorem dX8_makePart_176 : decode cX8_makePart 176 = .ok (.ireturn, 1) := by decide +kernel
theorem dX8_countSending_0 : decode cX8_countSending 0 = .ok (.aload_n 0, 1) := by decide +kernel
theorem dX8_countSending_1 : decode cX8_countSending 1 = .ok (.dup, 1) := by decide +kernel
theorem dX8_countSending_2 : decode cX8_countSending 2 = .ok (.getfield 243, 3) := by decide +kernel
theorem dX8_countSending_5 : decode cX8_countSending 5 = .ok (.iconst 1, 1) := by decide +kernel
theorem dX8_countSending_6 : decode cX8_countSending 6 = .ok (.iadd, 1) := by decide +kernel
theorem dX8_countSending_7 : decode cX8_countSending 7 = .ok (.putfield 243, 3) := by decide +kernel
theorem dX8_countSending_10 : decode cX8_countSending 10 = .ok (.aload_n 1, 1) := by decide +kernel
theorem dX8_countSending_11 : decode cX8_countSending 11 = .ok (.dup, 1) := by decide +kernel
theorem dX8_countSending_12 : decode cX8_countSending 12 = .ok (.getfield 94, 3) := by decide +kernel
theorem dX8_countSending_15 : decode cX8_countSending 15 = .ok (.iconst 1, 1) := by decide +kernel
theorem dX8_countSending_16 : decode cX8_countSending 16 = .ok (.iadd, 1) := by decide +kernel
theorem dX8_countSending_17 : decode cX8_countSending 17 = .ok (.putfield 94, 3) := by decide +kernel
theorem dX8_countSending_20 : decode cX8_countSending 20 = .ok (.iload_n 2, 1) := by decide +kernel
theorem dX8_countSending_21 : decode cX8_countSending 21 = .ok (.ifCond .eq 15, 3) := by decide +kernel
theorem dX8_countSending_24 : decode cX8_countSending 24 = .ok (.aload_n 0, 1) := by decide +kernel
theorem dX8_countSending_25 : decode cX8_countSending 25 = .ok (.dup, 1) := by decide +kernel
theorem dX8_countSending_26 : decode cX8_countSending 26 = .ok (.getfield 244, 3) := by decide +kernel
theorem dX8_countSending_29 : decode cX8_countSending 29 = .ok (.iconst 1, 1) := by decide +kernel
theorem dX8_countSending_30 : decode cX8_countSending 30 = .ok (.iadd, 1) := by decide +kernel
theorem dX8_countSending_31 : decode cX8_countSending 31 = .ok (.putfield 244, 3) := by decide +kernel
theorem dX8_countSending_34 : decode cX8_countSending 34 = .ok (.iconst 0, 1) := by decide +kernel
theorem dX8_countSending_35 : decode cX8_countSending 35 = .ok (.ireturn, 1) := by decide +kernel
theorem dX8_countSending_36 : decode cX8_countSending 36 = .ok (.aload_n 1, 1) := by decide +kernel
theorem dX8_countSending_37 : decode cX8_countSending 37 = .ok (.getfield 240, 3) := by decide +kernel
theorem dX8_countSending_40 : decode cX8_countSending 40 = .ok (.ifCond .ne 7, 3) := by decide +kernel
theorem dX8_countSending_43 : decode cX8_countSending 43 = .ok (.iconst 1, 1) := by decide +kernel
theorem dX8_countSending_44 : decode cX8_countSending 44 = .ok (.goto 4, 3) := by decide +kernel
theorem dX8_countSending_47 : decode cX8_countSending 47 = .ok (.iconst 0, 1) := by decide +kernel
theorem dX8_countSending_48 : decode cX8_countSending 48 = .ok (.istore_n 3, 1) := by decide +kernel
theorem dX8_countSending_49 : decode cX8_countSending 49 = .ok (.aload_n 1, 1) := by decide +kernel
theorem dX8_countSending_50 : decode cX8_countSending 50 = .ok (.iconst 1, 1) := by decide +kernel
theorem dX8_countSending_51 : decode cX8_countSending 51 = .ok (.putfield 240, 3) := by decide +kernel
theorem dX8_countSending_54 : decode cX8_countSending 54 = .ok (.iload_n 3, 1) := by decide +kernel
theorem dX8_countSending_55 : decode cX8_countSending 55 = .ok (.ireturn, 1) := by decide +kernel
set_option maxRecDepth 20000 in
theorem ggX8_takeAnswer_X1_makeEmpty : GoodIn wsX8_takeAnswer wsX1_makeEmpty := goodIn_r _ [7, 8, 9, 10, 27, 28, 29, 30] (by decide +kernel) (by decide +kernel)
set_option maxRecDepth 20000 in
theorem gX8_takeAnswer_X1_makeEmpty : GoodIn wsX8_takeAnswer (wsV RX8 127 RX1 yX1_makeEmpty wsX1_makeEmpty) := goodIn_app (goodIn_of _ (by decide +kernel)) ggX8_takeAnswer_X1_makeEmpty
theorem dX8_takeAnswer_0 : decode cX8_takeAnswer 0 = .ok (.iload_n 2, 1) := by decide +kernel
theorem dX8_takeAnswer_1 : decode cX8_takeAnswer 1 = .ok (.ifCond .eq 13, 3) := by decide +kernel
theorem dX8_takeAnswer_4 : decode cX8_takeAnswer 4 = .ok (.aload_n 0, 1) := by decide +kernel
theorem dX8_takeAnswer_5 : decode cX8_takeAnswer 5 = .ok (.dup, 1) := by decide +kernel
theorem dX8_takeAnswer_6 : decode cX8_takeAnswer 6 = .ok (.getfield 247, 3) := by decide +kernel
theorem dX8_takeAnswer_9 : decode cX8_takeAnswer 9 = .ok (.iconst 1, 1) := by decide +kernel
theorem dX8_takeAnswer_10 : decode cX8_takeAnswer 10 = .ok (.iadd, 1) := by decide +kernel
theorem dX8_takeAnswer_11 : decode cX8_takeAnswer 11 = .ok (.putfield 247, 3) := by decide +kernel
theorem dX8_takeAnswer_14 : decode cX8_takeAnswer 14 = .ok (.aload_n 1, 1) := by decide +kernel
theorem dX8_takeAnswer_15 : decode cX8_takeAnswer 15 = .ok (.getfield 240, 3) := by decide +kernel
theorem dX8_takeAnswer_18 : decode cX8_takeAnswer 18 = .ok (.iload_n 2, 1) := by decide +kernel
theorem dX8_takeAnswer_19 : decode cX8_takeAnswer 19 = .ok (.if_icmp .eq 10, 3) := by decide +kernel
theorem dX8_takeAnswer_22 : decode cX8_takeAnswer 22 = .ok (.aload_n 1, 1) := by decide +kernel
theorem dX8_takeAnswer_23 : decode cX8_takeAnswer 23 = .ok (.invokevirtual 127, 3) := by decide +kernel
theorem dX8_takeAnswer_26 : decode cX8_takeAnswer 26 = .ok (.goto 25, 3) := by decide +kernel
theorem dX8_takeAnswer_29 : decode cX8_takeAnswer 29 = .ok (.aload_n 1, 1) := by decide +kernel
theorem dX8_takeAnswer_30 : decode cX8_takeAnswer 30 = .ok (.getfield 94, 3) := by decide +kernel
theorem dX8_takeAnswer_33 : decode cX8_takeAnswer 33 = .ok (.iconst 3, 1) := by decide +kernel
theorem dX8_takeAnswer_34 : decode cX8_takeAnswer 34 = .ok (.if_icmp .lt 17, 3) := by decide +kernel
theorem dX8_takeAnswer_37 : decode cX8_takeAnswer 37 = .ok (.aload_n 0, 1) := by decide +kernel
theorem dX8_takeAnswer_38 : decode cX8_takeAnswer 38 = .ok (.dup, 1) := by decide +kernel
theorem dX8_takeAnswer_39 : decode cX8_takeAnswer 39 = .ok (.getfield 250, 3) := by decide +kernel
theorem dX8_takeAnswer_42 : decode cX8_takeAnswer 42 = .ok (.iconst 1, 1) := by decide +kernel
theorem dX8_takeAnswer_43 : decode cX8_takeAnswer 43 = .ok (.iadd, 1) := by decide +kernel
theorem dX8_takeAnswer_44 : decode cX8_takeAnswer 44 = .ok (.putfield 250, 3) := by decide +kernel
theorem dX8_takeAnswer_47 : decode cX8_takeAnswer 47 = .ok (.aload_n 1, 1) := by decide +kernel
theorem dX8_takeAnswer_48 : decode cX8_takeAnswer 48 = .ok (.invokevirtual 127, 3) := by decide +kernel
theorem dX8_takeAnswer_51 : decode cX8_takeAnswer 51 = .ok (.return_, 1) := by decide +kernel
set_option maxRecDepth 20000 in
theorem ggX8_workOn_X0_at : GoodIn wsX8_workOn wsX0_at := goodIn_r _ [8, 9, 10, 232, 233] (by decide +kernel) (by decide +kernel)
set_option maxRecDepth 20000 in
theorem gX8_workOn_X0_at : GoodIn wsX8_workOn (wsV RX8 141 RX0 yX0_at wsX0_at) := goodIn_app (goodIn_of _ (by decide +kernel)) ggX8_workOn_X0_at
set_option maxRecDepth 20000 in
theorem ggX8_workOn_X8_placeOf : GoodIn wsX8_workOn wsX8_placeOf := goodIn_r _ [15, 1, 234, 235, 236, 237, 238, 239, 240, 241, 242, 243, 244, 245, 246, 247, 248, 249] (by decide +kernel) (by decide +kernel)
set_option maxRecDepth 20000 in
theorem gX8_workOn_X8_placeOf : GoodIn wsX8_workOn (wsV RX8 67 RX8 yX8_placeOf wsX8_placeOf) := goodIn_app (goodIn_of _ (by decide +kernel)) ggX8_workOn_X8_placeOf
