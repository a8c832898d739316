theorem dX6_heldBytes_21 : decode cX6_heldBytes 21 = .ok (.getfield 63, 3) := by decide +kernel
theorem dX6_heldBytes_24 : decode cX6_heldBytes 24 = .ok (.iadd, 1) := by decide +kernel
theorem dX6_heldBytes_25 : decode cX6_heldBytes 25 = .ok (.istore_n 1, 1) := by decide +kernel
theorem dX6_heldBytes_26 : decode cX6_heldBytes 26 = .ok (.iinc 2 1, 3) := by decide +kernel
theorem dX6_heldBytes_29 : decode cX6_heldBytes 29 = .ok (.goto (-22), 3) := by decide +kernel
theorem dX6_heldBytes_32 : decode cX6_heldBytes 32 = .ok (.iload_n 1, 1) := by decide +kernel
theorem dX6_heldBytes_33 : decode cX6_heldBytes 33 = .ok (.ireturn, 1) := by decide +kernel
set_option maxRecDepth 20000 in
theorem ggX6_countDown_X6_giveUpAwaiting : GoodIn wsX6_countDown wsX6_giveUpAwaiting := goodIn_r _ [7, 8, 9, 10, 11, 12, 13, 14, 15, 2, 16, 17, 18, 6, 19, 20, 21, 22, 23, 24, 25, 26, 27, 28, 29, 30, 31, 32, 33, 34, 35, 36, 37, 38, 39, 40, 41, 42, 43, 44, 45, 46, 47, 48, 49, 50, 51, 52, 53] (by decide +kernel) (by decide +kernel)
set_option maxRecDepth 20000 in
theorem gX6_countDown_X6_giveUpAwaiting : GoodIn wsX6_countDown (wsV RX6 66 RX6 yX6_giveUpAwaiting wsX6_giveUpAwaiting) := goodIn_app (goodIn_of _ (by decide +kernel)) ggX6_countDown_X6_giveUpAwaiting
theorem dX6_countDown_0 : decode cX6_countDown 0 = .ok (.aload_n 0, 1) := by decide +kernel
theorem dX6_countDown_1 : decode cX6_countDown 1 = .ok (.getfield 60, 3) := by decide +kernel
theorem dX6_countDown_4 : decode cX6_countDown 4 = .ok (.ifCond .le 13, 3) := by decide +kernel
theorem dX6_countDown_7 : decode cX6_countDown 7 = .ok (.aload_n 0, 1) := by decide +kernel
theorem dX6_countDown_8 : decode cX6_countDown 8 = .ok (.dup, 1) := by decide +kernel
theorem dX6_countDown_9 : decode cX6_countDown 9 = .ok (.getfield 60, 3) := by decide +kernel
theorem dX6_countDown_12 : decode cX6_countDown 12 = .ok (.iconst 1, 1) := by decide +kernel
theorem dX6_countDown_13 : decode cX6_countDown 13 = .ok (.isub, 1) := by decide +kernel
theorem dX6_countDown_14 : decode cX6_countDown 14 = .ok (.putfield 60, 3) := by decide +kernel
theorem dX6_countDown_17 : decode cX6_countDown 17 = .ok (.aload_n 0, 1) := by decide +kernel
theorem dX6_countDown_18 : decode cX6_countDown 18 = .ok (.getfield 57, 3) := by decide +kernel
theorem dX6_countDown_21 : decode cX6_countDown 21 = .ok (.ifCond .le 24, 3) := by decide +kernel
theorem dX6_countDown_24 : decode cX6_countDown 24 = .ok (.aload_n 0, 1) := by decide +kernel
theorem dX6_countDown_25 : decode cX6_countDown 25 = .ok (.dup, 1) := by decide +kernel
theorem dX6_countDown_26 : decode cX6_countDown 26 = .ok (.getfield 57, 3) := by decide +kernel
theorem dX6_countDown_29 : decode cX6_countDown 29 = .ok (.iconst 1, 1) := by decide +kernel
theorem dX6_countDown_30 : decode cX6_countDown 30 = .ok (.isub, 1) := by decide +kernel
theorem dX6_countDown_31 : decode cX6_countDown 31 = .ok (.putfield 57, 3) := by decide +kernel
theorem dX6_countDown_34 : decode cX6_countDown 34 = .ok (.aload_n 0, 1) := by decide +kernel
theorem dX6_countDown_35 : decode cX6_countDown 35 = .ok (.getfield 57, 3) := by decide +kernel
theorem dX6_countDown_38 : decode cX6_countDown 38 = .ok (.ifCond .ne 7, 3) := by decide +kernel
theorem dX6_countDown_41 : decode cX6_countDown 41 = .ok (.aload_n 0, 1) := by decide +kernel
theorem dX6_countDown_42 : decode cX6_countDown 42 = .ok (.invokevirtual 66, 3) := by decide +kernel
theorem dX6_countDown_45 : decode cX6_countDown 45 = .ok (.return_, 1) := by decide +kernel
set_option maxRecDepth 20000 in
theorem ggX6_giveUpAwaiting_X6_raiseTold : GoodIn wsX6_giveUpAwaiting wsX6_raiseTold := goodIn_r _ [14, 1, 15, 16, 17, 13, 18, 19, 8, 20, 21, 22, 23, 24, 30, 31, 32, 33, 34, 35, 36, 37, 38, 39, 40, 41, 42, 43, 44, 45, 46, 47, 48] (by decide +kernel) (by decide +kernel)
set_option maxRecDepth 20000 in
theorem gX6_giveUpAwaiting_X6_raiseTold : GoodIn wsX6_giveUpAwaiting (wsV RX6 75 RX6 yX6_raiseTold wsX6_raiseTold) := goodIn_app (goodIn_of _ (by decide +kernel)) ggX6_giveUpAwaiting_X6_raiseTold
set_option maxRecDepth 20000 in
theorem ggX6_giveUpAwaiting_X6_answerPolls : GoodIn wsX6_giveUpAwaiting wsX6_answerPolls := goodIn_r _ [28, 29, 1, 7, 30, 31, 32, 33, 34, 35, 36, 37, 38, 39, 40, 41, 42] (by decide +kernel) (by decide +kernel)
set_option maxRecDepth 20000 in
theorem gX6_giveUpAwaiting_X6_answerPolls : GoodIn wsX6_giveUpAwaiting (wsV RX6 78 RX6 yX6_answerPolls wsX6_answerPolls) := goodIn_app (goodIn_of _ (by decide +kernel)) ggX6_giveUpAwaiting_X6_answerPolls
theorem dX6_giveUpAwaiting_0 : decode cX6_giveUpAwaiting 0 = .ok (.aload_n 0, 1) := by decide +kernel
theorem dX6_giveUpAwaiting_1 : decode cX6_giveUpAwaiting 1 = .ok (.aload_n 0, 1) := by decide +kernel
theorem dX6_giveUpAwaiting_2 : decode cX6_giveUpAwaiting 2 = .ok (.getfield 47, 3) := by decide +kernel
theorem dX6_giveUpAwaiting_5 : decode cX6_giveUpAwaiting 5 = .ok (.aload_n 0, 1) := by decide +kernel
theorem dX6_giveUpAwaiting_6 : decode cX6_giveUpAwaiting 6 = .ok (.getfield 50, 3) := by decide +kernel
theorem dX6_giveUpAwaiting_9 : decode cX6_giveUpAwaiting 9 = .ok (.invokestatic 69, 3) := by decide +kernel
theorem dX6_giveUpAwaiting_12 : decode cX6_giveUpAwaiting 12 = .ok (.putfield 47, 3) := by decide +kernel
theorem dX6_giveUpAwaiting_15 : decode cX6_giveUpAwaiting 15 = .ok (.aload_n 0, 1) := by decide +kernel
theorem dX6_giveUpAwaiting_16 : decode cX6_giveUpAwaiting 16 = .ok (.invokevirtual 75, 3) := by decide +kernel
theorem dX6_giveUpAwaiting_19 : decode cX6_giveUpAwaiting 19 = .ok (.aload_n 0, 1) := by decide +kernel
theorem dX6_giveUpAwaiting_20 : decode cX6_giveUpAwaiting 20 = .ok (.iconst 1, 1) := by decide +kernel
theorem dX6_giveUpAwaiting_21 : decode cX6_giveUpAwaiting 21 = .ok (.putfield 53, 3) := by decide +kernel
theorem dX6_giveUpAwaiting_24 : decode cX6_giveUpAwaiting 24 = .ok (.aload_n 0, 1) := by decide +kernel
theorem dX6_giveUpAwaiting_25 : decode cX6_giveUpAwaiting 25 = .ok (.invokevirtual 78, 3) := by decide +kernel
theorem dX6_giveUpAwaiting_28 : decode cX6_giveUpAwaiting 28 = .ok (.aload_n 0, 1) := by decide +kernel
theorem dX6_giveUpAwaiting_29 : decode cX6_giveUpAwaiting 29 = .ok (.getfield 37, 3) := by decide +kernel
theorem dX6_giveUpAwaiting_32 : decode cX6_giveUpAwaiting 32 = .ok (.aload_n 0, 1) := by decide +kernel
theorem dX6_giveUpAwaiting_33 : decode cX6_giveUpAwaiting 33 = .ok (.getfield 47, 3) := by decide +kernel
theorem dX6_giveUpAwaiting_36 : decode cX6_giveUpAwaiting 36 = .ok (.if_icmp .le 17, 3) := by decide +kernel
theorem dX6_giveUpAwaiting_39 : decode cX6_giveUpAwaiting 39 = .ok (.aload_n 0, 1) := by decide +kernel
theorem dX6_giveUpAwaiting_40 : decode cX6_giveUpAwaiting 40 = .ok (.bipush 6, 2) := by decide +kernel
theorem dX6_giveUpAwaiting_42 : decode cX6_giveUpAwaiting 42 = .ok (.putfield 57, 3) := by decide +kernel
theorem dX6_giveUpAwaiting_45 : decode cX6_giveUpAwaiting 45 = .ok (.aload_n 0, 1) := by decide +kernel
theorem dX6_giveUpAwaiting_46 : decode cX6_giveUpAwaiting 46 = .ok (.aload_n 0, 1) := by decide +kernel
theorem dX6_giveUpAwaiting_47 : decode cX6_giveUpAwaiting 47 = .ok (.getfield 37, 3) := by decide +kernel
theorem dX6_giveUpAwaiting_50 : decode cX6_giveUpAwaiting 50 = .ok (.putfield 50, 3) := by decide +kernel
theorem dX6_giveUpAwaiting_53 : decode cX6_giveUpAwaiting 53 = .ok (.return_, 1) := by decide +kernel
set_option maxRecDepth 20000 in
theorem ggX6_takeBytes_X0_at : GoodIn wsX6_takeBytes wsX0_at := goodIn_r _ [17, 18, 19, 59, 60] (by decide +kernel) (by decide +kernel)
set_option maxRecDepth 20000 in
theorem gX6_takeBytes_X0_at : GoodIn wsX6_takeBytes (wsV RX6 84 RX0 yX0_at wsX0_at) := goodIn_app (goodIn_of _ (by decide +kernel)) ggX6_takeBytes_X0_at
set_option maxRecDepth 20000 in
theorem ggX6_takeBytes_X6_pieceAt : GoodIn wsX6_takeBytes wsX6_pieceAt := goodIn_r _ [24, 25, 40, 41, 42, 43, 44, 45, 46, 47, 48, 49, 50, 51, 52] (by decide +kernel) (by decide +kernel)
set_option maxRecDepth 20000 in
theorem gX6_takeBytes_X6_pieceAt : GoodIn wsX6_takeBytes (wsV RX6 40 RX6 yX6_pieceAt wsX6_pieceAt) := goodIn_app (goodIn_of _ (by decide +kernel)) ggX6_takeBytes_X6_pieceAt
set_option maxRecDepth 20000 in
theorem ggX6_takeBytes_X6_takeCells : GoodIn wsX6_takeBytes wsX6_takeCells := goodIn_r _ [29, 30, 31, 23, 32, 13, 14, 15, 16, 17, 18, 19, 33, 34, 35, 36, 37, 38, 39, 59, 60, 53, 54, 55, 56, 57, 58] (by decide +kernel) (by decide +kernel)
set_option maxRecDepth 20000 in
theorem gX6_takeBytes_X6_takeCells : GoodIn wsX6_takeBytes (wsV RX6 93 RX6 yX6_takeCells wsX6_takeCells) := goodIn_app (goodIn_of _ (by decide +kernel)) ggX6_takeBytes_X6_takeCells
theorem dX6_takeBytes_0 : decode cX6_takeBytes 0 = .ok (.aload_n 0, 1) := by decide +kernel
theorem dX6_takeBytes_1 : decode cX6_takeBytes 1 = .ok (.dup, 1) := by decide +kernel
theorem dX6_takeBytes_2 : decode cX6_takeBytes 2 = .ok (.getfield 81, 3) := by decide +kernel
theorem dX6_takeBytes_5 : decode cX6_takeBytes 5 = .ok (.iconst 1, 1) := by decide +kernel
theorem dX6_takeBytes_6 : decode cX6_takeBytes 6 = .ok (.iadd, 1) := by decide +kernel
theorem dX6_takeBytes_7 : decode cX6_takeBytes 7 = .ok (.putfield 81, 3) := by decide +kernel
theorem dX6_takeBytes_10 : decode cX6_takeBytes 10 = .ok (.aload_n 1, 1) := by decide +kernel
theorem dX6_takeBytes_11 : decode cX6_takeBytes 11 = .ok (.iload_n 2, 1) := by decide +kernel
theorem dX6_takeBytes_12 : decode cX6_takeBytes 12 = .ok (.invokevirtual 84, 3) := by decide +kernel
theorem dX6_takeBytes_15 : decode cX6_takeBytes 15 = .ok (.istore 4, 2) := by decide +kernel
theorem dX6_takeBytes_17 : decode cX6_takeBytes 17 = .ok (.aload_n 0, 1) := by decide +kernel
theorem dX6_takeBytes_18 : decode cX6_takeBytes 18 = .ok (.getfield 34, 3) := by decide +kernel
theorem dX6_takeBytes_21 : decode cX6_takeBytes 21 = .ok (.aload_n 1, 1) := by decide +kernel
theorem dX6_takeBytes_22 : decode cX6_takeBytes 22 = .ok (.iload_n 2, 1) := by decide +kernel
theorem dX6_takeBytes_23 : decode cX6_takeBytes 23 = .ok (.iconst 1, 1) := by decide +kernel
theorem dX6_takeBytes_24 : decode cX6_takeBytes 24 = .ok (.iadd, 1) := by decide +kernel
theorem dX6_takeBytes_25 : decode cX6_takeBytes 25 = .ok (.invokevirtual 84, 3) := by decide +kernel
theorem dX6_takeBytes_28 : decode cX6_takeBytes 28 = .ok (.aload_n 0, 1) := by decide +kernel
theorem dX6_takeBytes_29 : decode cX6_takeBytes 29 = .ok (.getfield 34, 3) := by decide +kernel
theorem dX6_takeBytes_32 : decode cX6_takeBytes 32 = .ok (.isub, 1) := by decide +kernel
theorem dX6_takeBytes_33 : decode cX6_takeBytes 33 = .ok (.bipush 63, 2) := by decide +kernel
theorem dX6_takeBytes_35 : decode cX6_takeBytes 35 = .ok (.iand, 1) := by decide +kernel
theorem dX6_takeBytes_36 : decode cX6_takeBytes 36 = .ok (.iadd, 1) := by decide +kernel
theorem dX6_takeBytes_37 : decode cX6_takeBytes 37 = .ok (.istore 5, 2) := by decide +kernel
theorem dX6_takeBytes_39 : decode cX6_takeBytes 39 = .ok (.iload 5, 2) := by decide +kernel
theorem dX6_takeBytes_41 : decode cX6_takeBytes 41 = .ok (.aload_n 0, 1) := by decide +kernel
theorem dX6_takeBytes_42 : decode cX6_takeBytes 42 = .ok (.getfield 34, 3) := by decide +kernel
theorem dX6_takeBytes_45 : decode cX6_takeBytes 45 = .ok (.bipush 32, 2) := by decide +kernel
theorem dX6_takeBytes_47 : decode cX6_takeBytes 47 = .ok (.iadd, 1) := by decide +kernel
theorem dX6_takeBytes_48 : decode cX6_takeBytes 48 = .ok (.if_icmp .lt 39, 3) := by decide +kernel
theorem dX6_takeBytes_51 : decode cX6_takeBytes 51 = .ok (.aload_n 0, 1) := by decide +kernel
theorem dX6_takeBytes_52 : decode cX6_takeBytes 52 = .ok (.dup, 1) := by decide +kernel
theorem dX6_takeBytes_53 : decode cX6_takeBytes 53 = .ok (.getfield 90, 3) := by decide +kernel
theorem dX6_takeBytes_56 : decode cX6_takeBytes 56 = .ok (.iconst 1, 1) := by decide +kernel
theorem dX6_takeBytes_57 : decode cX6_takeBytes 57 = .ok (.iadd, 1) := by decide +kernel
theorem dX6_takeBytes_58 : decode cX6_takeBytes 58 = .ok (.putfield 90, 3) := by decide +kernel
theorem dX6_takeBytes_61 : decode cX6_takeBytes 61 = .ok (.aload_n 0, 1) := by decide +kernel
theorem dX6_takeBytes_62 : decode cX6_takeBytes 62 = .ok (.aload_n 0, 1) := by decide +kernel
theorem dX6_takeBytes_63 : decode cX6_takeBytes 63 = .ok (.getfield 53, 3) := by decide +kernel
theorem dX6_takeBytes_66 : decode cX6_takeBytes 66 = .ok (.ifCond .ne 11, 3) := by decide +kernel
theorem dX6_takeBytes_69 : decode cX6_takeBytes 69 = .ok (.iload 4, 2) := by decide +kernel
theorem dX6_takeBytes_71 : decode cX6_takeBytes 71 = .ok (.bipush 32, 2) := by decide +kernel
theorem dX6_takeBytes_73 : decode cX6_takeBytes 73 = .ok (.iand, 1) := by decide +kernel
theorem dX6_takeBytes_74 : decode cX6_takeBytes 74 = .ok (.ifCond .eq 7, 3) := by decide +kernel
theorem dX6_takeBytes_77 : decode cX6_takeBytes 77 = .ok (.iconst 1, 1) := by decide +kernel
theorem dX6_takeBytes_78 : decode cX6_takeBytes 78 = .ok (.goto 4, 3) := by decide +kernel
theorem dX6_takeBytes_81 : decode cX6_takeBytes 81 = .ok (.iconst 0, 1) := by decide +kernel
theorem dX6_takeBytes_82 : decode cX6_takeBytes 82 = .ok (.putfield 53, 3) := by decide +kernel
theorem dX6_takeBytes_85 : decode cX6_takeBytes 85 = .ok (.iconst (-1), 1) := by decide +kernel
theorem dX6_takeBytes_86 : decode cX6_takeBytes 86 = .ok (.ireturn, 1) := by decide +kernel
theorem dX6_takeBytes_87 : decode cX6_takeBytes 87 = .ok (.aload_n 0, 1) := by decide +kernel
theorem dX6_takeBytes_88 : decode cX6_takeBytes 88 = .ok (.iload 5, 2) := by decide +kernel
theorem dX6_takeBytes_90 : decode cX6_takeBytes 90 = .ok (.invokevirtual 40, 3) := by decide +kernel
theorem dX6_takeBytes_93 : decode cX6_takeBytes 93 = .ok (.astore 6, 2) := by decide +kernel
theorem dX6_takeBytes_95 : decode cX6_takeBytes 95 = .ok (.iload 4, 2) := by decide +kernel
theorem dX6_takeBytes_97 : decode cX6_takeBytes 97 = .ok (.bipush 64, 2) := by decide +kernel
theorem dX6_takeBytes_99 : decode cX6_takeBytes 99 = .ok (.iand, 1) := by decide +kernel
theorem dX6_takeBytes_100 : decode cX6_takeBytes 100 = .ok (.ifCond .eq 7, 3) := by decide +kernel
theorem dX6_takeBytes_103 : decode cX6_takeBytes 103 = .ok (.iconst 1, 1) := by decide +kernel
theorem dX6_takeBytes_104 : decode cX6_takeBytes 104 = .ok (.goto 4, 3) := by decide +kernel
theorem dX6_takeBytes_107 : decode cX6_takeBytes 107 = .ok (.iconst 0, 1) := by decide +kernel
theorem dX6_takeBytes_108 : decode cX6_takeBytes 108 = .ok (.istore 7, 2) := by decide +kernel
theorem dX6_takeBytes_110 : decode cX6_takeBytes 110 = .ok (.iload 7, 2) := by decide +kernel
theorem dX6_takeBytes_112 : decode cX6_takeBytes 112 = .ok (.ifCond .eq 13, 3) := by decide +kernel
theorem dX6_takeBytes_115 : decode cX6_takeBytes 115 = .ok (.aload_n 1, 1) := by decide +kernel
theorem dX6_takeBytes_116 : decode cX6_takeBytes 116 = .ok (.iload_n 2, 1) := by decide +kernel
theorem dX6_takeBytes_117 : decode cX6_takeBytes 117 = .ok (.iconst 2, 1) := by decide +kernel
theorem dX6_takeBytes_118 : decode cX6_takeBytes 118 = .ok (.iadd, 1) := by decide +kernel
theorem dX6_takeBytes_119 : decode cX6_takeBytes 119 = .ok (.invokevirtual 84, 3) := by decide +kernel
theorem dX6_takeBytes_122 : decode cX6_takeBytes 122 = .ok (.goto 4, 3) := by decide +kernel
theorem dX6_takeBytes_125 : decode cX6_takeBytes 125 = .ok (.iconst 0, 1) := by decide +kernel
theorem dX6_takeBytes_126 : decode cX6_takeBytes 126 = .ok (.istore 8, 2) := by decide +kernel
theorem dX6_takeBytes_128 : decode cX6_takeBytes 128 = .ok (.iload_n 2, 1) := by decide +kernel
theorem dX6_takeBytes_129 : decode cX6_takeBytes 129 = .ok (.iload 7, 2) := by decide +kernel
theorem dX6_takeBytes_131 : decode cX6_takeBytes 131 = .ok (.ifCond .eq 7, 3) := by decide +kernel
theorem dX6_takeBytes_134 : decode cX6_takeBytes 134 = .ok (.iconst 3, 1) := by decide +kernel
theorem dX6_takeBytes_135 : decode cX6_takeBytes 135 = .ok (.goto 4, 3) := by decide +kernel
theorem dX6_takeBytes_138 : decode cX6_takeBytes 138 = .ok (.iconst 2, 1) := by decide +kernel
theorem dX6_takeBytes_139 : decode cX6_takeBytes 139 = .ok (.iadd, 1) := by decide +kernel
theorem dX6_takeBytes_140 : decode cX6_takeBytes 140 = .ok (.istore 9, 2) := by decide +kernel
theorem dX6_takeBytes_142 : decode cX6_takeBytes 142 = .ok (.aload 6, 2) := by decide +kernel
theorem dX6_takeBytes_144 : decode cX6_takeBytes 144 = .ok (.getfield 63, 3) := by decide +kernel
theorem dX6_takeBytes_147 : decode cX6_takeBytes 147 = .ok (.istore 10, 2) := by decide +kernel
theorem dX6_takeBytes_149 : decode cX6_takeBytes 149 = .ok (.aload_n 0, 1) := by decide +kernel
theorem dX6_takeBytes_150 : decode cX6_takeBytes 150 = .ok (.aload 6, 2) := by decide +kernel
theorem dX6_takeBytes_152 : decode cX6_takeBytes 152 = .ok (.iload 8, 2) := by decide +kernel
theorem dX6_takeBytes_154 : decode cX6_takeBytes 154 = .ok (.aload_n 1, 1) := by decide +kernel
theorem dX6_takeBytes_155 : decode cX6_takeBytes 155 = .ok (.iload 9, 2) := by decide +kernel
theorem dX6_takeBytes_157 : decode cX6_takeBytes 157 = .ok (.iload_n 3, 1) := by decide +kernel
theorem dX6_takeBytes_158 : decode cX6_takeBytes 158 = .ok (.iload 4, 2) := by decide +kernel
theorem dX6_takeBytes_160 : decode cX6_takeBytes 160 = .ok (.invokevirtual 93, 3) := by decide +kernel
theorem dX6_takeBytes_163 : decode cX6_takeBytes 163 = .ok (.istore 11, 2) := by decide +kernel
theorem dX6_takeBytes_165 : decode cX6_takeBytes 165 = .ok (.iload 7, 2) := by decide +kernel
theorem dX6_takeBytes_167 : decode cX6_takeBytes 167 = .ok (.ifCond .eq 17, 3) := by decide +kernel
theorem dX6_takeBytes_170 : decode cX6_takeBytes 170 = .ok (.aload_n 1, 1) := by decide +kernel
theorem dX6_takeBytes_171 : decode cX6_takeBytes 171 = .ok (.iload_n 2, 1) := by decide +kernel
theorem dX6_takeBytes_172 : decode cX6_takeBytes 172 = .ok (.iconst 1, 1) := by decide +kernel
theorem dX6_takeBytes_173 : decode cX6_takeBytes 173 = .ok (.iadd, 1) := by decide +kernel
theorem dX6_takeBytes_174 : decode cX6_takeBytes 174 = .ok (.invokevirtual 84, 3) := by decide +kernel
theorem dX6_takeBytes_177 : decode cX6_takeBytes 177 = .ok (.sipush 128, 3) := by decide +kernel
theorem dX6_takeBytes_180 : decode cX6_takeBytes 180 = .ok (.iand, 1) := by decide +kernel
theorem dX6_takeBytes_181 : decode cX6_takeBytes 181 = .ok (.ifCond .eq 16, 3) := by decide +kernel
theorem dX6_takeBytes_184 : decode cX6_takeBytes 184 = .ok (.aload 6, 2) := by decide +kernel
theorem dX6_takeBytes_186 : decode cX6_takeBytes 186 = .ok (.iload 11, 2) := by decide +kernel
theorem dX6_takeBytes_188 : decode cX6_takeBytes 188 = .ok (.sipush 240, 3) := by decide +kernel
theorem dX6_takeBytes_191 : decode cX6_takeBytes 191 = .ok (.invokestatic 97, 3) := by decide +kernel
theorem dX6_takeBytes_194 : decode cX6_takeBytes 194 = .ok (.putfield 31, 3) := by decide +kernel
theorem dX6_takeBytes_197 : decode cX6_takeBytes 197 = .ok (.aload 6, 2) := by decide +kernel
theorem dX6_takeBytes_199 : decode cX6_takeBytes 199 = .ok (.getfield 63, 3) := by decide +kernel
theorem dX6_takeBytes_202 : decode cX6_takeBytes 202 = .ok (.iload 10, 2) := by decide +kernel
theorem dX6_takeBytes_204 : decode cX6_takeBytes 204 = .ok (.if_icmp .ne 13, 3) := by decide +kernel
theorem dX6_takeBytes_207 : decode cX6_takeBytes 207 = .ok (.aload_n 0, 1) := by decide +kernel
theorem dX6_takeBytes_208 : decode cX6_takeBytes 208 = .ok (.dup, 1) := by decide +kernel
theorem dX6_takeBytes_209 : decode cX6_takeBytes 209 = .ok (.getfield 90, 3) := by decide +kernel
theorem dX6_takeBytes_212 : decode cX6_takeBytes 212 = .ok (.iconst 1, 1) := by decide +kernel
theorem dX6_takeBytes_213 : decode cX6_takeBytes 213 = .ok (.iadd, 1) := by decide +kernel
theorem dX6_takeBytes_214 : decode cX6_takeBytes 214 = .ok (.putfield 90, 3) := by decide +kernel
theorem dX6_takeBytes_217 : decode cX6_takeBytes 217 = .ok (.aload_n 0, 1) := by decide +kernel
theorem dX6_takeBytes_218 : decode cX6_takeBytes 218 = .ok (.aload_n 0, 1) := by decide +kernel
theorem dX6_takeBytes_219 : decode cX6_takeBytes 219 = .ok (.getfield 37, 3) := by decide +kernel
theorem dX6_takeBytes_222 : decode cX6_takeBytes 222 = .ok (.iload 5, 2) := by decide +kernel
theorem dX6_takeBytes_224 : decode cX6_takeBytes 224 = .ok (.iconst 1, 1) := by decide +kernel
theorem dX6_takeBytes_225 : decode cX6_takeBytes 225 = .ok (.iadd, 1) := by decide +kernel
theorem dX6_takeBytes_226 : decode cX6_takeBytes 226 = .ok (.invokestatic 69, 3) := by decide +kernel
theorem dX6_takeBytes_229 : decode cX6_takeBytes 229 = .ok (.putfield 37, 3) := by decide +kernel
theorem dX6_takeBytes_232 : decode cX6_takeBytes 232 = .ok (.iload 5, 2) := by decide +kernel
theorem dX6_takeBytes_234 : decode cX6_takeBytes 234 = .ok (.ireturn, 1) := by decide +kernel
set_option maxRecDepth 20000 in
theorem ggX6_takeCells_X6_countLengths : GoodIn wsX6_takeCells wsX6_countLengths := goodIn_r _ [4, 5, 6, 7, 8, 9, 10, 11, 19, 20] (by decide +kernel) (by decide +kernel)
set_option maxRecDepth 20000 in
theorem gX6_takeCells_X6_countLengths : GoodIn wsX6_takeCells (va_wsS RX6 100 yX6_countLengths wsX6_countLengths) := goodIn_app (goodIn_of _ (by decide +kernel)) ggX6_takeCells_X6_countLengths
set_option maxRecDepth 20000 in
theorem ggX6_takeCells_X0_at : GoodIn wsX6_takeCells wsX0_at := goodIn_r _ [9, 10, 11, 19, 20] (by decide +kernel) (by decide +kernel)
set_option maxRecDepth 20000 in
theorem gX6_takeCells_X0_at : GoodIn wsX6_takeCells (wsV RX6 84 RX0 yX0_at wsX0_at) := goodIn_app (goodIn_of _ (by decide +kernel)) ggX6_takeCells_X0_at
set_option maxRecDepth 20000 in
theorem ggX6_takeCells_X5_putArrived : GoodIn wsX6_takeCells wsX5_putArrived := goodIn_r _ [16, 17, 18, 21, 22, 23, 24, 25, 26] (by decide +kernel) (by decide +kernel)
set_option maxRecDepth 20000 in
theorem gX6_takeCells_X5_putArrived : GoodIn wsX6_takeCells (wsV RX6 104 RX5 yX5_putArrived wsX5_putArrived) := goodIn_app (goodIn_of _ (by decide +kernel)) ggX6_takeCells_X5_putArrived
theorem dX6_takeCells_0 : decode cX6_takeCells 0 = .ok (.iload 6, 2) := by decide +kernel
theorem dX6_takeCells_2 : decode cX6_takeCells 2 = .ok (.iconst 4, 1) := by decide +kernel
theorem dX6_takeCells_3 : decode cX6_takeCells 3 = .ok (.iand, 1) := by decide +kernel
theorem dX6_takeCells_4 : decode cX6_takeCells 4 = .ok (.ifCond .eq 12, 3) := by decide +kernel
theorem dX6_takeCells_7 : decode cX6_takeCells 7 = .ok (.aload_n 3, 1) := by decide +kernel
theorem dX6_takeCells_8 : decode cX6_takeCells 8 = .ok (.iload 4, 2) := by decide +kernel
theorem dX6_takeCells_10 : decode cX6_takeCells 10 = .ok (.invokestatic 100, 3) := by decide +kernel
theorem dX6_takeCells_13 : decode cX6_takeCells 13 = .ok (.goto 4, 3) := by decide +kernel
theorem dX6_takeCells_16 : decode cX6_takeCells 16 = .ok (.iconst 0, 1) := by decide +kernel
theorem dX6_takeCells_17 : decode cX6_takeCells 17 = .ok (.istore 7, 2) := by decide +kernel
theorem dX6_takeCells_19 : decode cX6_takeCells 19 = .ok (.iload 4, 2) := by decide +kernel
theorem dX6_takeCells_21 : decode cX6_takeCells 21 = .ok (.iload 7, 2) := by decide +kernel
theorem dX6_takeCells_23 : decode cX6_takeCells 23 = .ok (.iadd, 1) := by decide +kernel
theorem dX6_takeCells_24 : decode cX6_takeCells 24 = .ok (.istore 8, 2) := by decide +kernel
theorem dX6_takeCells_26 : decode cX6_takeCells 26 = .ok (.iload 4, 2) := by decide +kernel
theorem dX6_takeCells_28 : decode cX6_takeCells 28 = .ok (.istore 9, 2) := by decide +kernel
theorem dX6_takeCells_30 : decode cX6_takeCells 30 = .ok (.iload 8, 2) := by decide +kernel
theorem dX6_takeCells_32 : decode cX6_takeCells 32 = .ok (.istore 10, 2) := by decide +kernel
theorem dX6_takeCells_34 : decode cX6_takeCells 34 = .ok (.iload 6, 2) := by decide +kernel
theorem dX6_takeCells_36 : decode cX6_takeCells 36 = .ok (.bipush 16, 2) := by decide +kernel
theorem dX6_takeCells_38 : decode cX6_takeCells 38 = .ok (.iand, 1) := by decide +kernel
theorem dX6_takeCells_39 : decode cX6_takeCells 39 = .ok (.ifCond .ne 7, 3) := by decide +kernel
theorem dX6_takeCells_42 : decode cX6_takeCells 42 = .ok (.iconst 1, 1) := by decide +kernel
theorem dX6_takeCells_43 : decode cX6_takeCells 43 = .ok (.goto 4, 3) := by decide +kernel
theorem dX6_takeCells_46 : decode cX6_takeCells 46 = .ok (.iconst 0, 1) := by decide +kernel
theorem dX6_takeCells_47 : decode cX6_takeCells 47 = .ok (.istore 11, 2) := by decide +kernel
theorem dX6_takeCells_49 : decode cX6_takeCells 49 = .ok (.iload 8, 2) := by decide +kernel
theorem dX6_takeCells_51 : decode cX6_takeCells 51 = .ok (.istore 12, 2) := by decide +kernel
theorem dX6_takeCells_53 : decode cX6_takeCells 53 = .ok (.iload 12, 2) := by decide +kernel
theorem dX6_takeCells_55 : decode cX6_takeCells 55 = .ok (.iload 5, 2) := by decide +kernel
theorem dX6_takeCells_57 : decode cX6_takeCells 57 = .ok (.if_icmp .ge 118, 3) := by decide +kernel
theorem dX6_takeCells_60 : decode cX6_takeCells 60 = .ok (.iload 12, 2) := by decide +kernel
theorem dX6_takeCells_62 : decode cX6_takeCells 62 = .ok (.iload 5, 2) := by decide +kernel
theorem dX6_takeCells_64 : decode cX6_takeCells 64 = .ok (.iconst 1, 1) := by decide +kernel
theorem dX6_takeCells_65 : decode cX6_takeCells 65 = .ok (.isub, 1) := by decide +kernel
theorem dX6_takeCells_66 : decode cX6_takeCells 66 = .ok (.if_icmp .ne 15, 3) := by decide +kernel
theorem dX6_takeCells_69 : decode cX6_takeCells 69 = .ok (.iload 6, 2) := by decide +kernel
theorem dX6_takeCells_71 : decode cX6_takeCells 71 = .ok (.bipush 8, 2) := by decide +kernel
theorem dX6_takeCells_73 : decode cX6_takeCells 73 = .ok (.iand, 1) := by decide +kernel
theorem dX6_takeCells_74 : decode cX6_takeCells 74 = .ok (.ifCond .ne 7, 3) := by decide +kernel
theorem dX6_takeCells_77 : decode cX6_takeCells 77 = .ok (.iconst 1, 1) := by decide +kernel
theorem dX6_takeCells_78 : decode cX6_takeCells 78 = .ok (.goto 4, 3) := by decide +kernel
theorem dX6_takeCells_81 : decode cX6_takeCells 81 = .ok (.iconst 0, 1) := by decide +kernel
theorem dX6_takeCells_82 : decode cX6_takeCells 82 = .ok (.istore 13, 2) := by decide +kernel
theorem dX6_takeCells_84 : decode cX6_takeCells 84 = .ok (.iload 9, 2) := by decide +kernel
theorem dX6_takeCells_86 : decode cX6_takeCells 86 = .ok (.iload 8, 2) := by decide +kernel
theorem dX6_takeCells_88 : decode cX6_takeCells 88 = .ok (.if_icmp .ge 34, 3) := by decide +kernel
theorem dX6_takeCells_91 : decode cX6_takeCells 91 = .ok (.iload 12, 2) := by decide +kernel
theorem dX6_takeCells_93 : decode cX6_takeCells 93 = .ok (.iconst 1, 1) := by decide +kernel
theorem dX6_takeCells_94 : decode cX6_takeCells 94 = .ok (.iadd, 1) := by decide +kernel
theorem dX6_takeCells_95 : decode cX6_takeCells 95 = .ok (.iload 10, 2) := by decide +kernel
theorem dX6_takeCells_97 : decode cX6_takeCells 97 = .ok (.isub, 1) := by decide +kernel
theorem dX6_takeCells_98 : decode cX6_takeCells 98 = .ok (.aload_n 3, 1) := by decide +kernel
theorem dX6_takeCells_99 : decode cX6_takeCells 99 = .ok (.iload 9, 2) := by decide +kernel
theorem dX6_takeCells_101 : decode cX6_takeCells 101 = .ok (.invokevirtual 84, 3) := by decide +kernel
theorem dX6_takeCells_104 : decode cX6_takeCells 104 = .ok (.bipush 127, 2) := by decide +kernel
theorem dX6_takeCells_106 : decode cX6_takeCells 106 = .ok (.iand, 1) := by decide +kernel
theorem dX6_takeCells_107 : decode cX6_takeCells 107 = .ok (.if_icmp .ne 15, 3) := by decide +kernel
theorem dX6_takeCells_110 : decode cX6_takeCells 110 = .ok (.iconst 1, 1) := by decide +kernel
theorem dX6_takeCells_111 : decode cX6_takeCells 111 = .ok (.istore 13, 2) := by decide +kernel
theorem dX6_takeCells_113 : decode cX6_takeCells 113 = .ok (.iinc 9 1, 3) := by decide +kernel
theorem dX6_takeCells_116 : decode cX6_takeCells 116 = .ok (.iload 12, 2) := by decide +kernel
theorem dX6_takeCells_118 : decode cX6_takeCells 118 = .ok (.iconst 1, 1) := by decide +kernel
theorem dX6_takeCells_119 : decode cX6_takeCells 119 = .ok (.iadd, 1) := by decide +kernel
theorem dX6_takeCells_120 : decode cX6_takeCells 120 = .ok (.istore 10, 2) := by decide +kernel
theorem dX6_takeCells_122 : decode cX6_takeCells 122 = .ok (.aload_n 1, 1) := by decide +kernel
theorem dX6_takeCells_123 : decode cX6_takeCells 123 = .ok (.iload_n 2, 1) := by decide +kernel
theorem dX6_takeCells_124 : decode cX6_takeCells 124 = .ok (.iload 12, 2) := by decide +kernel
theorem dX6_takeCells_126 : decode cX6_takeCells 126 = .ok (.iadd, 1) := by decide +kernel
theorem dX6_takeCells_127 : decode cX6_takeCells 127 = .ok (.iload 8, 2) := by decide +kernel
theorem dX6_takeCells_129 : decode cX6_takeCells 129 = .ok (.isub, 1) := by decide +kernel
theorem dX6_takeCells_130 : decode cX6_takeCells 130 = .ok (.aload_n 3, 1) := by decide +kernel
theorem dX6_takeCells_131 : decode cX6_takeCells 131 = .ok (.iload 12, 2) := by decide +kernel
theorem dX6_takeCells_133 : decode cX6_takeCells 133 = .ok (.invokevirtual 84, 3) := by decide +kernel
theorem dX6_takeCells_136 : decode cX6_takeCells 136 = .ok (.iload 11, 2) := by decide +kernel
theorem dX6_takeCells_138 : decode cX6_takeCells 138 = .ok (.ifCond .eq 9, 3) := by decide +kernel
theorem dX6_takeCells_141 : decode cX6_takeCells 141 = .ok (.sipush 256, 3) := by decide +kernel
theorem dX6_takeCells_144 : decode cX6_takeCells 144 = .ok (.goto 4, 3) := by decide +kernel
theorem dX6_takeCells_147 : decode cX6_takeCells 147 = .ok (.iconst 0, 1) := by decide +kernel
theorem dX6_takeCells_148 : decode cX6_takeCells 148 = .ok (.iadd, 1) := by decide +kernel
theorem dX6_takeCells_149 : decode cX6_takeCells 149 = .ok (.iload 13, 2) := by decide +kernel
theorem dX6_takeCells_151 : decode cX6_takeCells 151 = .ok (.ifCond .eq 9, 3) := by decide +kernel
theorem dX6_takeCells_154 : decode cX6_takeCells 154 = .ok (.sipush 512, 3) := by decide +kernel
theorem dX6_takeCells_157 : decode cX6_takeCells 157 = .ok (.goto 4, 3) := by decide +kernel
theorem dX6_takeCells_160 : decode cX6_takeCells 160 = .ok (.iconst 0, 1) := by decide +kernel
theorem dX6_takeCells_161 : decode cX6_takeCells 161 = .ok (.iadd, 1) := by decide +kernel
theorem dX6_takeCells_162 : decode cX6_takeCells 162 = .ok (.invokevirtual 104, 3) := by decide +kernel
theorem dX6_takeCells_165 : decode cX6_takeCells 165 = .ok (.iload 13, 2) := by decide +kernel
theorem dX6_takeCells_167 : decode cX6_takeCells 167 = .ok (.istore 11, 2) := by decide +kernel
theorem dX6_takeCells_169 : decode cX6_takeCells 169 = .ok (.iinc 12 1, 3) := by decide +kernel
theorem dX6_takeCells_172 : decode cX6_takeCells 172 = .ok (.goto (-119), 3) := by decide +kernel
theorem dX6_takeCells_175 : decode cX6_takeCells 175 = .ok (.iload_n 2, 1) := by decide +kernel
theorem dX6_takeCells_176 : decode cX6_takeCells 176 = .ok (.iload 5, 2) := by decide +kernel
theorem dX6_takeCells_178 : decode cX6_takeCells 178 = .ok (.iadd, 1) := by decide +kernel
theorem dX6_takeCells_179 : decode cX6_takeCells 179 = .ok (.iload 8, 2) := by decide +kernel
theorem dX6_takeCells_181 : decode cX6_takeCells 181 = .ok (.isub, 1) := by decide +kernel
theorem dX6_takeCells_182 : decode cX6_takeCells 182 = .ok (.ireturn, 1) := by decide +kernel
set_option maxRecDepth 20000 in
theorem ggX6_countLengths_X0_at : GoodIn wsX6_countLengths wsX0_at := goodIn_r _ [5, 6, 7, 8, 9] (by decide +kernel) (by decide +kernel)
set_option maxRecDepth 20000 in
theorem gX6_countLengths_X0_at : GoodIn wsX6_countLengths (wsV RX6 84 RX0 yX0_at wsX0_at) := goodIn_app (goodIn_of _ (by decide +kernel)) ggX6_countLengths_X0_at
theorem dX6_countLengths_0 : decode cX6_countLengths 0 = .ok (.iconst 1, 1) := by decide +kernel
theorem dX6_countLengths_1 : decode cX6_countLengths 1 = .ok (.istore_n 2, 1) := by decide +kernel
theorem dX6_countLengths_2 : decode cX6_countLengths 2 = .ok (.iload_n 1, 1) := by decide +kernel
theorem dX6_countLengths_3 : decode cX6_countLengths 3 = .ok (.istore_n 3, 1) := by decide +kernel
theorem dX6_countLengths_4 : decode cX6_countLengths 4 = .ok (.iload_n 3, 1) := by decide +kernel
theorem dX6_countLengths_5 : decode cX6_countLengths 5 = .ok (.aload_n 0, 1) := by decide +kernel
theorem dX6_countLengths_6 : decode cX6_countLengths 6 = .ok (.getfield 108, 3) := by decide +kernel
theorem dX6_countLengths_9 : decode cX6_countLengths 9 = .ok (.if_icmp .ge 24, 3) := by decide +kernel
theorem dX6_countLengths_12 : decode cX6_countLengths 12 = .ok (.aload_n 0, 1) := by decide +kernel
theorem dX6_countLengths_13 : decode cX6_countLengths 13 = .ok (.iload_n 3, 1) := by decide +kernel
theorem dX6_countLengths_14 : decode cX6_countLengths 14 = .ok (.invokevirtual 84, 3) := by decide +kernel
theorem dX6_countLengths_17 : decode cX6_countLengths 17 = .ok (.sipush 128, 3) := by decide +kernel
theorem dX6_countLengths_20 : decode cX6_countLengths 20 = .ok (.iand, 1) := by decide +kernel
theorem dX6_countLengths_21 : decode cX6_countLengths 21 = .ok (.ifCond .eq 12, 3) := by decide +kernel
theorem dX6_countLengths_24 : decode cX6_countLengths 24 = .ok (.iinc 2 1, 3) := by decide +kernel
theorem dX6_countLengths_27 : decode cX6_countLengths 27 = .ok (.iinc 3 1, 3) := by decide +kernel
theorem dX6_countLengths_30 : decode cX6_countLengths 30 = .ok (.goto (-26), 3) := by decide +kernel
theorem dX6_countLengths_33 : decode cX6_countLengths 33 = .ok (.iload_n 2, 1) := by decide +kernel
theorem dX6_countLengths_34 : decode cX6_countLengths 34 = .ok (.ireturn, 1) := by decide +kernel
set_option maxRecDepth 20000 in
theorem ggX6_raiseTold_X6_isWhole : GoodIn wsX6_raiseTold wsX6_isWhole := goodIn_r _ [6, 7, 8, 9, 10, 11, 5, 12, 13, 14, 15, 16, 17, 18, 19, 20, 21, 22, 23, 24, 25, 26, 27, 28, 29, 30, 31, 32] (by decide +kernel) (by decide +kernel)
set_option maxRecDepth 20000 in
theorem gX6_raiseTold_X6_isWhole : GoodIn wsX6_raiseTold (wsV RX6 109 RX6 yX6_isWhole wsX6_isWhole) := goodIn_app (goodIn_of _ (by decide +kernel)) ggX6_raiseTold_X6_isWhole
theorem dX6_raiseTold_0 : decode cX6_raiseTold 0 = .ok (.iconst 0, 1) := by decide +kernel
theorem dX6_raiseTold_1 : decode cX6_raiseTold 1 = .ok (.istore_n 1, 1) := by decide +kernel
theorem dX6_raiseTold_2 : decode cX6_raiseTold 2 = .ok (.iload_n 1, 1) := by decide +kernel
theorem dX6_raiseTold_3 : decode cX6_raiseTold 3 = .ok (.bipush 32, 2) := by decide +kernel
theorem dX6_raiseTold_5 : decode cX6_raiseTold 5 = .ok (.if_icmp .ge 30, 3) := by decide +kernel
theorem dX6_raiseTold_8 : decode cX6_raiseTold 8 = .ok (.aload_n 0, 1) := by decide +kernel
theorem dX6_raiseTold_9 : decode cX6_raiseTold 9 = .ok (.aload_n 0, 1) := by decide +kernel
theorem dX6_raiseTold_10 : decode cX6_raiseTold 10 = .ok (.getfield 47, 3) := by decide +kernel
theorem dX6_raiseTold_13 : decode cX6_raiseTold 13 = .ok (.invokevirtual 109, 3) := by decide +kernel
theorem dX6_raiseTold_16 : decode cX6_raiseTold 16 = .ok (.ifCond .eq 19, 3) := by decide +kernel
theorem dX6_raiseTold_19 : decode cX6_raiseTold 19 = .ok (.aload_n 0, 1) := by decide +kernel
theorem dX6_raiseTold_20 : decode cX6_raiseTold 20 = .ok (.dup, 1) := by decide +kernel
theorem dX6_raiseTold_21 : decode cX6_raiseTold 21 = .ok (.getfield 47, 3) := by decide +kernel
theorem dX6_raiseTold_24 : decode cX6_raiseTold 24 = .ok (.iconst 1, 1) := by decide +kernel
theorem dX6_raiseTold_25 : decode cX6_raiseTold 25 = .ok (.iadd, 1) := by decide +kernel
theorem dX6_raiseTold_26 : decode cX6_raiseTold 26 = .ok (.putfield 47, 3) := by decide +kernel
theorem dX6_raiseTold_29 : decode cX6_raiseTold 29 = .ok (.iinc 1 1, 3) := by decide +kernel
theorem dX6_raiseTold_32 : decode cX6_raiseTold 32 = .ok (.goto (-30), 3) := by decide +kernel
theorem dX6_raiseTold_35 : decode cX6_raiseTold 35 = .ok (.return_, 1) := by decide +kernel
set_option maxRecDepth 20000 in
theorem ggX6_passLow_X6_pieceAt : GoodIn wsX6_passLow wsX6_pieceAt := goodIn_r _ [11, 12, 28, 29, 30, 31, 32, 33, 34, 35, 36, 37, 38, 39, 40] (by decide +kernel) (by decide +kernel)
set_option maxRecDepth 20000 in
theorem gX6_passLow_X6_pieceAt : GoodIn wsX6_passLow (wsV RX6 40 RX6 yX6_pieceAt wsX6_pieceAt) := goodIn_app (goodIn_of _ (by decide +kernel)) ggX6_passLow_X6_pieceAt
set_option maxRecDepth 20000 in
theorem ggX6_passLow_X5_clear : GoodIn wsX6_passLow wsX5_clear := goodIn_r _ [17, 18, 19, 20, 21, 22, 23, 24, 25, 26, 27, 41, 42, 43, 44, 45, 46] (by decide +kernel) (by decide +kernel)
set_option maxRecDepth 20000 in
theorem gX6_passLow_X5_clear : GoodIn wsX6_passLow (wsV RX6 44 RX5 yX5_clear wsX5_clear) := goodIn_app (goodIn_of _ (by decide +kernel)) ggX6_passLow_X5_clear
theorem dX6_passLow_0 : decode cX6_passLow 0 = .ok (.aload_n 0, 1) := by decide +kernel
theorem dX6_passLow_1 : decode cX6_passLow 1 = .ok (.aload_n 0, 1) := by decide +kernel
theorem dX6_passLow_2 : decode cX6_passLow 2 = .ok (.getfield 34, 3) := by decide +kernel
theorem dX6_passLow_5 : decode cX6_passLow 5 = .ok (.invokevirtual 40, 3) := by decide +kernel
theorem dX6_passLow_8 : decode cX6_passLow 8 = .ok (.iconst (-1), 1) := by decide +kernel
theorem dX6_passLow_9 : decode cX6_passLow 9 = .ok (.invokevirtual 44, 3) := by decide +kernel
theorem dX6_passLow_12 : decode cX6_passLow 12 = .ok (.aload_n 0, 1) := by decide +kernel
theorem dX6_passLow_13 : decode cX6_passLow 13 = .ok (.dup, 1) := by decide +kernel
theorem dX6_passLow_14 : decode cX6_passLow 14 = .ok (.getfield 34, 3) := by decide +kernel
theorem dX6_passLow_17 : decode cX6_passLow 17 = .ok (.iconst 1, 1) := by decide +kernel
theorem dX6_passLow_18 : decode cX6_passLow 18 = .ok (.iadd, 1) := by decide +kernel
theorem dX6_passLow_19 : decode cX6_passLow 19 = .ok (.putfield 34, 3) := by decide +kernel
theorem dX6_passLow_22 : decode cX6_passLow 22 = .ok (.aload_n 0, 1) := by decide +kernel
theorem dX6_passLow_23 : decode cX6_passLow 23 = .ok (.aload_n 0, 1) := by decide +kernel
theorem dX6_passLow_24 : decode cX6_passLow 24 = .ok (.getfield 47, 3) := by decide +kernel
theorem dX6_passLow_27 : decode cX6_passLow 27 = .ok (.aload_n 0, 1) := by decide +kernel
theorem dX6_passLow_28 : decode cX6_passLow 28 = .ok (.getfield 34, 3) := by decide +kernel
theorem dX6_passLow_31 : decode cX6_passLow 31 = .ok (.invokestatic 69, 3) := by decide +kernel
theorem dX6_passLow_34 : decode cX6_passLow 34 = .ok (.putfield 47, 3) := by decide +kernel
theorem dX6_passLow_37 : decode cX6_passLow 37 = .ok (.return_, 1) := by decide +kernel
set_option maxRecDepth 20000 in
theorem ggX6_settle_X6_answerPolls : GoodIn wsX6_settle wsX6_answerPolls := goodIn_r _ [10, 5, 11, 12, 13, 14, 15, 16, 17, 18, 19, 20, 21, 22, 23, 24, 25] (by decide +kernel) (by decide +kernel)
set_option maxRecDepth 20000 in
theorem gX6_settle_X6_answerPolls : GoodIn wsX6_settle (wsV RX6 78 RX6 yX6_answerPolls wsX6_answerPolls) := goodIn_app (goodIn_of _ (by decide +kernel)) ggX6_settle_X6_answerPolls
theorem dX6_settle_0 : decode cX6_settle 0 = .ok (.aload_n 0, 1) := by decide +kernel
theorem dX6_settle_1 : decode cX6_settle 1 = .ok (.invokevirtual 78, 3) := by decide +kernel
theorem dX6_settle_4 : decode cX6_settle 4 = .ok (.aload_n 0, 1) := by decide +kernel
theorem dX6_settle_5 : decode cX6_settle 5 = .ok (.getfield 57, 3) := by decide +kernel
theorem dX6_settle_8 : decode cX6_settle 8 = .ok (.ifCond .le 19, 3) := by decide +kernel
theorem dX6_settle_11 : decode cX6_settle 11 = .ok (.aload_n 0, 1) := by decide +kernel
theorem dX6_settle_12 : decode cX6_settle 12 = .ok (.getfield 50, 3) := by decide +kernel
theorem dX6_settle_15 : decode cX6_settle 15 = .ok (.aload_n 0, 1) := by decide +kernel
theorem dX6_settle_16 : decode cX6_settle 16 = .ok (.getfield 34, 3) := by decide +kernel
theorem dX6_settle_19 : decode cX6_settle 19 = .ok (.if_icmp .gt 8, 3) := by decide +kernel
theorem dX6_settle_22 : decode cX6_settle 22 = .ok (.aload_n 0, 1) := by decide +kernel
theorem dX6_settle_23 : decode cX6_settle 23 = .ok (.iconst 0, 1) := by decide +kernel
theorem dX6_settle_24 : decode cX6_settle 24 = .ok (.putfield 57, 3) := by decide +kernel
theorem dX6_settle_27 : decode cX6_settle 27 = .ok (.aload_n 0, 1) := by decide +kernel
theorem dX6_settle_28 : decode cX6_settle 28 = .ok (.getfield 57, 3) := by decide +kernel
theorem dX6_settle_31 : decode cX6_settle 31 = .ok (.ifCond .ne 28, 3) := by decide +kernel
theorem dX6_settle_34 : decode cX6_settle 34 = .ok (.aload_n 0, 1) := by decide +kernel
theorem dX6_settle_35 : decode cX6_settle 35 = .ok (.getfield 37, 3) := by decide +kernel
theorem dX6_settle_38 : decode cX6_settle 38 = .ok (.aload_n 0, 1) := by decide +kernel
theorem dX6_settle_39 : decode cX6_settle 39 = .ok (.getfield 34, 3) := by decide +kernel
theorem dX6_settle_42 : decode cX6_settle 42 = .ok (.if_icmp .le 17, 3) := by decide +kernel
theorem dX6_settle_45 : decode cX6_settle 45 = .ok (.aload_n 0, 1) := by decide +kernel
theorem dX6_settle_46 : decode cX6_settle 46 = .ok (.bipush 6, 2) := by decide +kernel
theorem dX6_settle_48 : decode cX6_settle 48 = .ok (.putfield 57, 3) := by decide +kernel
theorem dX6_settle_51 : decode cX6_settle 51 = .ok (.aload_n 0, 1) := by decide +kernel
theorem dX6_settle_52 : decode cX6_settle 52 = .ok (.aload_n 0, 1) := by decide +kernel
theorem dX6_settle_53 : decode cX6_settle 53 = .ok (.getfield 37, 3) := by decide +kernel
theorem dX6_settle_56 : decode cX6_settle 56 = .ok (.putfield 50, 3) := by decide +kernel
theorem dX6_settle_59 : decode cX6_settle 59 = .ok (.iload_n 2, 1) := by decide +kernel
theorem dX6_settle_60 : decode cX6_settle 60 = .ok (.ifCond .eq 12, 3) := by decide +kernel
theorem dX6_settle_63 : decode cX6_settle 63 = .ok (.aload_n 0, 1) := by decide +kernel
theorem dX6_settle_64 : decode cX6_settle 64 = .ok (.iload_n 1, 1) := by decide +kernel
theorem dX6_settle_65 : decode cX6_settle 65 = .ok (.putfield 17, 3) := by decide +kernel
theorem dX6_settle_68 : decode cX6_settle 68 = .ok (.aload_n 0, 1) := by decide +kernel
theorem dX6_settle_69 : decode cX6_settle 69 = .ok (.invokevirtual 78, 3) := by decide +kernel
theorem dX6_settle_72 : decode cX6_settle 72 = .ok (.return_, 1) := by decide +kernel
theorem dX6_answerPolls_0 : decode cX6_answerPolls 0 = .ok (.aload_n 0, 1) := by decide +kernel
theorem dX6_answerPolls_1 : decode cX6_answerPolls 1 = .ok (.getfield 17, 3) := by decide +kernel
theorem dX6_answerPolls_4 : decode cX6_answerPolls 4 = .ok (.iconst (-1), 1) := by decide +kernel
theorem dX6_answerPolls_5 : decode cX6_answerPolls 5 = .ok (.if_icmp .eq 24, 3) := by decide +kernel
theorem dX6_answerPolls_8 : decode cX6_answerPolls 8 = .ok (.aload_n 0, 1) := by decide +kernel
theorem dX6_answerPolls_9 : decode cX6_answerPolls 9 = .ok (.getfield 17, 3) := by decide +kernel
theorem dX6_answerPolls_12 : decode cX6_answerPolls 12 = .ok (.aload_n 0, 1) := by decide +kernel
theorem dX6_answerPolls_13 : decode cX6_answerPolls 13 = .ok (.getfield 47, 3) := by decide +kernel
theorem dX6_answerPolls_16 : decode cX6_answerPolls 16 = .ok (.if_icmp .ge 13, 3) := by decide +kernel
theorem dX6_answerPolls_19 : decode cX6_answerPolls 19 = .ok (.aload_n 0, 1) := by decide +kernel
theorem dX6_answerPolls_20 : decode cX6_answerPolls 20 = .ok (.iconst 1, 1) := by decide +kernel
theorem dX6_answerPolls_21 : decode cX6_answerPolls 21 = .ok (.putfield 53, 3) := by decide +kernel
theorem dX6_answerPolls_24 : decode cX6_answerPolls 24 = .ok (.aload_n 0, 1) := by decide +kernel
theorem dX6_answerPolls_25 : decode cX6_answerPolls 25 = .ok (.iconst (-1), 1) := by decide +kernel
theorem dX6_answerPolls_26 : decode cX6_answerPolls 26 = .ok (.putfield 17, 3) := by decide +kernel
theorem dX6_answerPolls_29 : decode cX6_answerPolls 29 = .ok (.return_, 1) := by decide +kernel
set_option maxRecDepth 20000 in
theorem ggX6_makeStatus_X0_put : GoodIn wsX6_makeStatus wsX0_put := goodIn_r _ [10, 11, 12, 52, 53] (by decide +kernel) (by decide +kernel)
set_option maxRecDepth 20000 in
theorem gX6_makeStatus_X0_put : GoodIn wsX6_makeStatus (wsV RX6 113 RX0 yX0_put wsX0_put) := goodIn_app (goodIn_of _ (by decide +kernel)) ggX6_makeStatus_X0_put
set_option maxRecDepth 20000 in
theorem ggX6_makeStatus_X6_pieceAt : GoodIn wsX6_makeStatus wsX6_pieceAt := goodIn_r _ [17, 18, 54, 55, 56, 57, 58, 59, 60, 61, 62, 63, 64, 65, 66] (by decide +kernel) (by decide +kernel)
set_option maxRecDepth 20000 in
theorem gX6_makeStatus_X6_pieceAt : GoodIn wsX6_makeStatus (wsV RX6 40 RX6 yX6_pieceAt wsX6_pieceAt) := goodIn_app (goodIn_of _ (by decide +kernel)) ggX6_makeStatus_X6_pieceAt
set_option maxRecDepth 20000 in
theorem ggX6_makeStatus_X6_isWhole : GoodIn wsX6_makeStatus wsX6_isWhole := goodIn_r _ [22, 2, 23, 13, 14, 15, 16, 17, 18, 54, 55, 56, 57, 58, 59, 60, 61, 62, 63, 64, 65, 66, 67, 68, 69, 70, 71, 72] (by decide +kernel) (by decide +kernel)
set_option maxRecDepth 20000 in
theorem gX6_makeStatus_X6_isWhole : GoodIn wsX6_makeStatus (wsV RX6 109 RX6 yX6_isWhole wsX6_isWhole) := goodIn_app (goodIn_of _ (by decide +kernel)) ggX6_makeStatus_X6_isWhole
set_option maxRecDepth 20000 in
theorem ggX6_makeStatus_X5_missingRuns : GoodIn wsX6_makeStatus wsX5_missingRuns := goodIn_r _ [28, 29, 30, 31, 27, 32, 33, 34, 35, 36, 37, 38, 39, 40, 41, 42, 67, 68, 69, 70, 71, 72] (by decide +kernel) (by decide +kernel)
set_option maxRecDepth 20000 in
theorem gX6_makeStatus_X5_missingRuns : GoodIn wsX6_makeStatus (wsV RX6 116 RX5 yX5_missingRuns wsX5_missingRuns) := goodIn_app (goodIn_of _ (by decide +kernel)) ggX6_makeStatus_X5_missingRuns
set_option maxRecDepth 20000 in
theorem ggX6_makeStatus_X5_writeMissing : GoodIn wsX6_makeStatus wsX5_writeMissing := goodIn_r _ [46, 33, 29, 30, 31, 27, 32, 34, 35, 36, 37, 38, 39, 40, 41, 42, 47, 7, 8, 9, 10, 11, 12, 67, 68, 69, 70, 71, 72, 52, 53] (by decide +kernel) (by decide +kernel)
set_option maxRecDepth 20000 in
theorem gX6_makeStatus_X5_writeMissing : GoodIn wsX6_makeStatus (wsV RX6 120 RX5 yX5_writeMissing wsX5_writeMissing) := goodIn_app (goodIn_of _ (by decide +kernel)) ggX6_makeStatus_X5_writeMissing
set_option maxRecDepth 20000 in
theorem ggX6_makeStatus_X0_set : GoodIn wsX6_makeStatus wsX0_set := goodIn_r _ [51, 11, 12, 52, 53] (by decide +kernel) (by decide +kernel)
set_option maxRecDepth 20000 in
theorem gX6_makeStatus_X0_set : GoodIn wsX6_makeStatus (wsV RX6 124 RX0 yX0_set wsX0_set) := goodIn_app (goodIn_of _ (by decide +kernel)) ggX6_makeStatus_X0_set
theorem dX6_makeStatus_0 : decode cX6_makeStatus 0 = .ok (.aload_n 1, 1) := by decide +kernel
theorem dX6_makeStatus_1 : decode cX6_makeStatus 1 = .ok (.getfield 108, 3) := by decide +kernel
theorem dX6_makeStatus_4 : decode cX6_makeStatus 4 = .ok (.istore_n 3, 1) := by decide +kernel
theorem dX6_makeStatus_5 : decode cX6_makeStatus 5 = .ok (.aload_n 1, 1) := by decide +kernel
theorem dX6_makeStatus_6 : decode cX6_makeStatus 6 = .ok (.iconst 0, 1) := by decide +kernel
theorem dX6_makeStatus_7 : decode cX6_makeStatus 7 = .ok (.invokevirtual 113, 3) := by decide +kernel
theorem dX6_makeStatus_10 : decode cX6_makeStatus 10 = .ok (.aload_n 1, 1) := by decide +kernel
theorem dX6_makeStatus_11 : decode cX6_makeStatus 11 = .ok (.iconst 0, 1) := by decide +kernel
theorem dX6_makeStatus_12 : decode cX6_makeStatus 12 = .ok (.invokevirtual 113, 3) := by decide +kernel
theorem dX6_makeStatus_15 : decode cX6_makeStatus 15 = .ok (.iconst 0, 1) := by decide +kernel
theorem dX6_makeStatus_16 : decode cX6_makeStatus 16 = .ok (.istore 4, 2) := by decide +kernel
theorem dX6_makeStatus_18 : decode cX6_makeStatus 18 = .ok (.aload_n 0, 1) := by decide +kernel
theorem dX6_makeStatus_19 : decode cX6_makeStatus 19 = .ok (.getfield 47, 3) := by decide +kernel
theorem dX6_makeStatus_22 : decode cX6_makeStatus 22 = .ok (.istore 5, 2) := by decide +kernel
theorem dX6_makeStatus_24 : decode cX6_makeStatus 24 = .ok (.aload_n 0, 1) := by decide +kernel
theorem dX6_makeStatus_25 : decode cX6_makeStatus 25 = .ok (.getfield 34, 3) := by decide +kernel
theorem dX6_makeStatus_28 : decode cX6_makeStatus 28 = .ok (.istore 6, 2) := by decide +kernel
theorem dX6_makeStatus_30 : decode cX6_makeStatus 30 = .ok (.iload 6, 2) := by decide +kernel
theorem dX6_makeStatus_32 : decode cX6_makeStatus 32 = .ok (.aload_n 0, 1) := by decide +kernel
theorem dX6_makeStatus_33 : decode cX6_makeStatus 33 = .ok (.getfield 47, 3) := by decide +kernel
theorem dX6_makeStatus_36 : decode cX6_makeStatus 36 = .ok (.if_icmp .ge 131, 3) := by decide +kernel
theorem dX6_makeStatus_39 : decode cX6_makeStatus 39 = .ok (.aload_n 0, 1) := by decide +kernel
theorem dX6_makeStatus_40 : decode cX6_makeStatus 40 = .ok (.iload 6, 2) := by decide +kernel
theorem dX6_makeStatus_42 : decode cX6_makeStatus 42 = .ok (.invokevirtual 40, 3) := by decide +kernel
theorem dX6_makeStatus_45 : decode cX6_makeStatus 45 = .ok (.astore 7, 2) := by decide +kernel
theorem dX6_makeStatus_47 : decode cX6_makeStatus 47 = .ok (.aload_n 0, 1) := by decide +kernel
theorem dX6_makeStatus_48 : decode cX6_makeStatus 48 = .ok (.iload 6, 2) := by decide +kernel
theorem dX6_makeStatus_50 : decode cX6_makeStatus 50 = .ok (.invokevirtual 109, 3) := by decide +kernel
theorem dX6_makeStatus_53 : decode cX6_makeStatus 53 = .ok (.ifCond .eq 6, 3) := by decide +kernel
theorem dX6_makeStatus_56 : decode cX6_makeStatus 56 = .ok (.goto 105, 3) := by decide +kernel
theorem dX6_makeStatus_59 : decode cX6_makeStatus 59 = .ok (.aload 7, 2) := by decide +kernel
theorem dX6_makeStatus_61 : decode cX6_makeStatus 61 = .ok (.getfield 63, 3) := by decide +kernel
theorem dX6_makeStatus_64 : decode cX6_makeStatus 64 = .ok (.ifCond .ne 7, 3) := by decide +kernel
theorem dX6_makeStatus_67 : decode cX6_makeStatus 67 = .ok (.iconst 1, 1) := by decide +kernel
theorem dX6_makeStatus_68 : decode cX6_makeStatus 68 = .ok (.goto 8, 3) := by decide +kernel
theorem dX6_makeStatus_71 : decode cX6_makeStatus 71 = .ok (.aload 7, 2) := by decide +kernel
theorem dX6_makeStatus_73 : decode cX6_makeStatus 73 = .ok (.invokevirtual 116, 3) := by decide +kernel
theorem dX6_makeStatus_76 : decode cX6_makeStatus 76 = .ok (.istore 8, 2) := by decide +kernel
theorem dX6_makeStatus_78 : decode cX6_makeStatus 78 = .ok (.aload 7, 2) := by decide +kernel
theorem dX6_makeStatus_80 : decode cX6_makeStatus 80 = .ok (.getfield 63, 3) := by decide +kernel
theorem dX6_makeStatus_83 : decode cX6_makeStatus 83 = .ok (.ifCond .ne 7, 3) := by decide +kernel
theorem dX6_makeStatus_86 : decode cX6_makeStatus 86 = .ok (.iconst 1, 1) := by decide +kernel
theorem dX6_makeStatus_87 : decode cX6_makeStatus 87 = .ok (.goto 7, 3) := by decide +kernel
theorem dX6_makeStatus_90 : decode cX6_makeStatus 90 = .ok (.iconst 3, 1) := by decide +kernel
theorem dX6_makeStatus_91 : decode cX6_makeStatus 91 = .ok (.iload 8, 2) := by decide +kernel
theorem dX6_makeStatus_93 : decode cX6_makeStatus 93 = .ok (.imul, 1) := by decide +kernel
theorem dX6_makeStatus_94 : decode cX6_makeStatus 94 = .ok (.istore 9, 2) := by decide +kernel
theorem dX6_makeStatus_96 : decode cX6_makeStatus 96 = .ok (.iload 4, 2) := by decide +kernel
theorem dX6_makeStatus_98 : decode cX6_makeStatus 98 = .ok (.iload 8, 2) := by decide +kernel
theorem dX6_makeStatus_100 : decode cX6_makeStatus 100 = .ok (.iadd, 1) := by decide +kernel
theorem dX6_makeStatus_101 : decode cX6_makeStatus 101 = .ok (.bipush 15, 2) := by decide +kernel
theorem dX6_makeStatus_103 : decode cX6_makeStatus 103 = .ok (.if_icmp .gt 16, 3) := by decide +kernel
theorem dX6_makeStatus_106 : decode cX6_makeStatus 106 = .ok (.aload_n 1, 1) := by decide +kernel
theorem dX6_makeStatus_107 : decode cX6_makeStatus 107 = .ok (.getfield 108, 3) := by decide +kernel
theorem dX6_makeStatus_110 : decode cX6_makeStatus 110 = .ok (.iload_n 3, 1) := by decide +kernel
theorem dX6_makeStatus_111 : decode cX6_makeStatus 111 = .ok (.isub, 1) := by decide +kernel
theorem dX6_makeStatus_112 : decode cX6_makeStatus 112 = .ok (.iload 9, 2) := by decide +kernel
theorem dX6_makeStatus_114 : decode cX6_makeStatus 114 = .ok (.iadd, 1) := by decide +kernel
theorem dX6_makeStatus_115 : decode cX6_makeStatus 115 = .ok (.iload_n 2, 1) := by decide +kernel
theorem dX6_makeStatus_116 : decode cX6_makeStatus 116 = .ok (.if_icmp .le 10, 3) := by decide +kernel
theorem dX6_makeStatus_119 : decode cX6_makeStatus 119 = .ok (.iload 6, 2) := by decide +kernel
theorem dX6_makeStatus_121 : decode cX6_makeStatus 121 = .ok (.istore 5, 2) := by decide +kernel
theorem dX6_makeStatus_123 : decode cX6_makeStatus 123 = .ok (.goto 44, 3) := by decide +kernel
theorem dX6_makeStatus_126 : decode cX6_makeStatus 126 = .ok (.aload 7, 2) := by decide +kernel
theorem dX6_makeStatus_128 : decode cX6_makeStatus 128 = .ok (.getfield 63, 3) := by decide +kernel
theorem dX6_makeStatus_131 : decode cX6_makeStatus 131 = .ok (.ifCond .ne 15, 3) := by decide +kernel
theorem dX6_makeStatus_134 : decode cX6_makeStatus 134 = .ok (.aload_n 1, 1) := by decide +kernel
theorem dX6_makeStatus_135 : decode cX6_makeStatus 135 = .ok (.iload 6, 2) := by decide +kernel
theorem dX6_makeStatus_137 : decode cX6_makeStatus 137 = .ok (.bipush 63, 2) := by decide +kernel
theorem dX6_makeStatus_139 : decode cX6_makeStatus 139 = .ok (.iand, 1) := by decide +kernel
theorem dX6_makeStatus_140 : decode cX6_makeStatus 140 = .ok (.invokevirtual 113, 3) := by decide +kernel
theorem dX6_makeStatus_143 : decode cX6_makeStatus 143 = .ok (.goto 11, 3) := by decide +kernel
theorem dX6_makeStatus_146 : decode cX6_makeStatus 146 = .ok (.aload 7, 2) := by decide +kernel
theorem dX6_makeStatus_148 : decode cX6_makeStatus 148 = .ok (.aload_n 1, 1) := by decide +kernel
theorem dX6_makeStatus_149 : decode cX6_makeStatus 149 = .ok (.iload 6, 2) := by decide +kernel
theorem dX6_makeStatus_151 : decode cX6_makeStatus 151 = .ok (.invokevirtual 120, 3) := by decide +kernel
theorem dX6_makeStatus_154 : decode cX6_makeStatus 154 = .ok (.iload 4, 2) := by decide +kernel
theorem dX6_makeStatus_156 : decode cX6_makeStatus 156 = .ok (.iload 8, 2) := by decide +kernel
theorem dX6_makeStatus_158 : decode cX6_makeStatus 158 = .ok (.iadd, 1) := by decide +kernel
theorem dX6_makeStatus_159 : decode cX6_makeStatus 159 = .ok (.istore 4, 2) := by decide +kernel
theorem dX6_makeStatus_161 : decode cX6_makeStatus 161 = .ok (.iinc 6 1, 3) := by decide +kernel
theorem dX6_makeStatus_164 : decode cX6_makeStatus 164 = .ok (.goto (-134), 3) := by decide +kernel
theorem dX6_makeStatus_167 : decode cX6_makeStatus 167 = .ok (.aload_n 1, 1) := by decide +kernel
theorem dX6_makeStatus_168 : decode cX6_makeStatus 168 = .ok (.iload_n 3, 1) := by decide +kernel
theorem dX6_makeStatus_169 : decode cX6_makeStatus 169 = .ok (.iload 4, 2) := by decide +kernel
theorem dX6_makeStatus_171 : decode cX6_makeStatus 171 = .ok (.invokevirtual 124, 3) := by decide +kernel
theorem dX6_makeStatus_174 : decode cX6_makeStatus 174 = .ok (.aload_n 1, 1) := by decide +kernel
theorem dX6_makeStatus_175 : decode cX6_makeStatus 175 = .ok (.iload_n 3, 1) := by decide +kernel
theorem dX6_makeStatus_176 : decode cX6_makeStatus 176 = .ok (.iconst 1, 1) := by decide +kernel
theorem dX6_makeStatus_177 : decode cX6_makeStatus 177 = .ok (.iadd, 1) := by decide +kernel
theorem dX6_makeStatus_178 : decode cX6_makeStatus 178 = .ok (.iload 5, 2) := by decide +kernel
theorem dX6_makeStatus_180 : decode cX6_makeStatus 180 = .ok (.bipush 63, 2) := by decide +kernel
theorem dX6_makeStatus_182 : decode cX6_makeStatus 182 = .ok (.iand, 1) := by decide +kernel
theorem dX6_makeStatus_183 : decode cX6_makeStatus 183 = .ok (.invokevirtual 124, 3) := by decide +kernel
theorem dX6_makeStatus_186 : decode cX6_makeStatus 186 = .ok (.aload_n 0, 1) := by decide +kernel
theorem dX6_makeStatus_187 : decode cX6_makeStatus 187 = .ok (.iconst 0, 1) := by decide +kernel
theorem dX6_makeStatus_188 : decode cX6_makeStatus 188 = .ok (.putfield 53, 3) := by decide +kernel
theorem dX6_makeStatus_191 : decode cX6_makeStatus 191 = .ok (.aload_n 0, 1) := by decide +kernel
theorem dX6_makeStatus_192 : decode cX6_makeStatus 192 = .ok (.iconst 5, 1) := by decide +kernel
theorem dX6_makeStatus_193 : decode cX6_makeStatus 193 = .ok (.putfield 60, 3) := by decide +kernel
theorem dX6_makeStatus_196 : decode cX6_makeStatus 196 = .ok (.aload_n 0, 1) := by decide +kernel
theorem dX6_makeStatus_197 : decode cX6_makeStatus 197 = .ok (.dup, 1) := by decide +kernel
theorem dX6_makeStatus_198 : decode cX6_makeStatus 198 = .ok (.getfield 127, 3) := by decide +kernel
theorem dX6_makeStatus_201 : decode cX6_makeStatus 201 = .ok (.iconst 1, 1) := by decide +kernel
theorem dX6_makeStatus_202 : decode cX6_makeStatus 202 = .ok (.iadd, 1) := by decide +kernel
theorem dX6_makeStatus_203 : decode cX6_makeStatus 203 = .ok (.putfield 127, 3) := by decide +kernel
theorem dX6_makeStatus_206 : decode cX6_makeStatus 206 = .ok (.return_, 1) := by decide +kernel
set_option maxRecDepth 20000 in
theorem ggX7_init_X4_init : GoodIn wsX7_init wsX4_init := goodIn_r _ [16, 17, 2, 3, 18, 19, 20, 21, 22, 23, 24, 25, 26, 27, 47, 48, 49, 50, 51, 52, 53, 54, 55, 56, 57, 58, 59, 60, 61] (by decide +kernel) (by decide +kernel)
set_option maxRecDepth 20000 in
theorem gX7_init_X4_init : GoodIn wsX7_init (wsX4_init) := ggX7_init_X4_init
set_option maxRecDepth 20000 in
theorem ggX7_init_X5_init : GoodIn wsX7_init wsX5_init := goodIn_r _ [29, 30, 2, 3, 18, 31, 62, 63, 64, 65, 66, 67] (by decide +kernel) (by decide +kernel)
set_option maxRecDepth 20000 in
theorem gX7_init_X5_init_n33 : GoodIn wsX7_init (wsX5_init) := ggX7_init_X5_init
theorem dX7_init_0 : decode cX7_init 0 = .ok (.aload_n 0, 1) := by decide +kernel
theorem dX7_init_1 : decode cX7_init 1 = .ok (.invokespecial 3, 3) := by decide +kernel
theorem dX7_init_4 : decode cX7_init 4 = .ok (.aload_n 0, 1) := by decide +kernel
theorem dX7_init_5 : decode cX7_init 5 = .ok (.bipush 16, 2) := by decide +kernel
theorem dX7_init_7 : decode cX7_init 7 = .ok (.anewarray 9, 3) := by decide +kernel
theorem dX7_init_10 : decode cX7_init 10 = .ok (.putfield 11, 3) := by decide +kernel
theorem dX7_init_13 : decode cX7_init 13 = .ok (.aload_n 0, 1) := by decide +kernel
theorem dX7_init_14 : decode cX7_init 14 = .ok (.bipush 16, 2) := by decide +kernel
theorem dX7_init_16 : decode cX7_init 16 = .ok (.putfield 17, 3) := by decide +kernel
theorem dX7_init_19 : decode cX7_init 19 = .ok (.aload_n 0, 1) := by decide +kernel
theorem dX7_init_20 : decode cX7_init 20 = .ok (.iconst (-1), 1) := by decide +kernel
theorem dX7_init_21 : decode cX7_init 21 = .ok (.putfield 21, 3) := by decide +kernel
theorem dX7_init_24 : decode cX7_init 24 = .ok (.aload_n 0, 1) := by decide +kernel
theorem dX7_init_25 : decode cX7_init 25 = .ok (.new 24, 3) := by decide +kernel
theorem dX7_init_28 : decode cX7_init 28 = .ok (.dup, 1) := by decide +kernel
theorem dX7_init_29 : decode cX7_init 29 = .ok (.iload_n 1, 1) := by decide +kernel
theorem dX7_init_30 : decode cX7_init 30 = .ok (.invokespecial 26, 3) := by decide +kernel
theorem dX7_init_33 : decode cX7_init 33 = .ok (.putfield 29, 3) := by decide +kernel
theorem dX7_init_36 : decode cX7_init 36 = .ok (.iconst 0, 1) := by decide +kernel
theorem dX7_init_37 : decode cX7_init 37 = .ok (.istore_n 2, 1) := by decide +kernel
theorem dX7_init_38 : decode cX7_init 38 = .ok (.iload_n 2, 1) := by decide +kernel
theorem dX7_init_39 : decode cX7_init 39 = .ok (.aload_n 0, 1) := by decide +kernel
theorem dX7_init_40 : decode cX7_init 40 = .ok (.getfield 11, 3) := by decide +kernel
theorem dX7_init_43 : decode cX7_init 43 = .ok (.arraylength, 1) := by decide +kernel
theorem dX7_init_44 : decode cX7_init 44 = .ok (.if_icmp .ge 22, 3) := by decide +kernel
theorem dX7_init_47 : decode cX7_init 47 = .ok (.aload_n 0, 1) := by decide +kernel
theorem dX7_init_48 : decode cX7_init 48 = .ok (.getfield 11, 3) := by decide +kernel
theorem dX7_init_51 : decode cX7_init 51 = .ok (.iload_n 2, 1) := by decide +kernel
theorem dX7_init_52 : decode cX7_init 52 = .ok (.new 9, 3) := by decide +kernel
theorem dX7_init_55 : decode cX7_init 55 = .ok (.dup, 1) := by decide +kernel
theorem dX7_init_56 : decode cX7_init 56 = .ok (.invokespecial 33, 3) := by decide +kernel
theorem dX7_init_59 : decode cX7_init 59 = .ok (.aastore, 1) := by decide +kernel
theorem dX7_init_60 : decode cX7_init 60 = .ok (.iinc 2 1, 3) := by decide +kernel
theorem dX7_init_63 : decode cX7_init 63 = .ok (.goto (-25), 3) := by decide +kernel
theorem dX7_init_66 : decode cX7_init 66 = .ok (.return_, 1) := by decide +kernel
theorem dX7_pieceAt_0 : decode cX7_pieceAt 0 = .ok (.aload_n 0, 1) := by decide +kernel
theorem dX7_pieceAt_1 : decode cX7_pieceAt 1 = .ok (.getfield 11, 3) := by decide +kernel
theorem dX7_pieceAt_4 : decode cX7_pieceAt 4 = .ok (.iload_n 1, 1) := by decide +kernel
theorem dX7_pieceAt_5 : decode cX7_pieceAt 5 = .ok (.bipush 15, 2) := by decide +kernel
theorem dX7_pieceAt_7 : decode cX7_pieceAt 7 = .ok (.iand, 1) := by decide +kernel
theorem dX7_pieceAt_8 : decode cX7_pieceAt 8 = .ok (.aaload, 1) := by decide +kernel
theorem dX7_pieceAt_9 : decode cX7_pieceAt 9 = .ok (.areturn, 1) := by decide +kernel
theorem dX7_startAnew_0 : decode cX7_startAnew 0 = .ok (.aload_n 0, 1) := by decide +kernel
theorem dX7_startAnew_1 : decode cX7_startAnew 1 = .ok (.iconst 0, 1) := by decide +kernel
theorem dX7_startAnew_2 : decode cX7_startAnew 2 = .ok (.putfield 34, 3) := by decide +kernel
theorem dX7_startAnew_5 : decode cX7_startAnew 5 = .ok (.aload_n 0, 1) := by decide +kernel
theorem dX7_startAnew_6 : decode cX7_startAnew 6 = .ok (.iconst 0, 1) := by decide +kernel
theorem dX7_startAnew_7 : decode cX7_startAnew 7 = .ok (.putfield 37, 3) := by decide +kernel
theorem dX7_startAnew_10 : decode cX7_startAnew 10 = .ok (.aload_n 0, 1) := by decide +kernel
theorem dX7_startAnew_11 : decode cX7_startAnew 11 = .ok (.iconst 0, 1) := by decide +kernel
theorem dX7_startAnew_12 : decode cX7_startAnew 12 = .ok (.putfield 40, 3) := by decide +kernel
theorem dX7_startAnew_15 : decode cX7_startAnew 15 = .ok (.aload_n 0, 1) := by decide +kernel
theorem dX7_startAnew_16 : decode cX7_startAnew 16 = .ok (.iconst 0, 1) := by decide +kernel
theorem dX7_startAnew_17 : decode cX7_startAnew 17 = .ok (.putfield 43, 3) := by decide +kernel
theorem dX7_startAnew_20 : decode cX7_startAnew 20 = .ok (.aload_n 0, 1) := by decide +kernel
theorem dX7_startAnew_21 : decode cX7_startAnew 21 = .ok (.iconst 0, 1) := by decide +kernel
theorem dX7_startAnew_22 : decode cX7_startAnew 22 = .ok (.putfield 47, 3) := by decide +kernel
theorem dX7_startAnew_25 : decode cX7_startAnew 25 = .ok (.aload_n 0, 1) := by decide +kernel
theorem dX7_startAnew_26 : decode cX7_startAnew 26 = .ok (.iconst (-1), 1) := by decide +kernel
theorem dX7_startAnew_27 : decode cX7_startAnew 27 = .ok (.putfield 21, 3) := by decide +kernel
theorem dX7_startAnew_30 : decode cX7_startAnew 30 = .ok (.aload_n 0, 1) := by decide +kernel
theorem dX7_startAnew_31 : decode cX7_startAnew 31 = .ok (.iconst 0, 1) := by decide +kernel
theorem dX7_startAnew_32 : decode cX7_startAnew 32 = .ok (.putfield 50, 3) := by decide +kernel
theorem dX7_startAnew_35 : decode cX7_startAnew 35 = .ok (.aload_n 0, 1) := by decide +kernel
theorem dX7_startAnew_36 : decode cX7_startAnew 36 = .ok (.iconst 0, 1) := by decide +kernel
theorem dX7_startAnew_37 : decode cX7_startAnew 37 = .ok (.putfield 53, 3) := by decide +kernel
theorem dX7_startAnew_40 : decode cX7_startAnew 40 = .ok (.return_, 1) := by decide +kernel
set_option maxRecDepth 20000 in
theorem ggX7_countDown_X7_pieceAt : GoodIn wsX7_countDown wsX7_pieceAt := goodIn_r _ [11, 12, 25, 26, 27, 28, 29, 30, 31, 32, 33, 34, 35, 36, 37, 38, 39] (by decide +kernel) (by decide +kernel)
set_option maxRecDepth 20000 in
theorem gX7_countDown_X7_pieceAt : GoodIn wsX7_countDown (wsV RX7 59 RX7 yX7_pieceAt wsX7_pieceAt) := goodIn_app (goodIn_of _ (by decide +kernel)) ggX7_countDown_X7_pieceAt
set_option maxRecDepth 20000 in
theorem ggX7_countDown_X7_bringAgain : GoodIn wsX7_countDown wsX7_bringAgain := goodIn_r _ [16, 17, 6, 18, 19, 20, 21, 22, 23, 24, 55, 56, 57, 58, 59, 60, 25, 26, 27, 28, 29, 30, 31, 32, 33, 34, 35, 36, 37, 38, 39] (by decide +kernel) (by decide +kernel)
set_option maxRecDepth 20000 in
theorem gX7_countDown_X7_bringAgain : GoodIn wsX7_countDown (wsV RX7 63 RX7 yX7_bringAgain wsX7_bringAgain) := goodIn_app (goodIn_of _ (by decide +kernel)) ggX7_countDown_X7_bringAgain
theorem dX7_countDown_0 : decode cX7_countDown 0 = .ok (.aload_n 0, 1) := by decide +kernel
theorem dX7_countDown_1 : decode cX7_countDown 1 = .ok (.getfield 50, 3) := by decide +kernel
theorem dX7_countDown_4 : decode cX7_countDown 4 = .ok (.ifCond .ne 4, 3) := by decide +kernel
theorem dX7_countDown_7 : decode cX7_countDown 7 = .ok (.return_, 1) := by decide +kernel
theorem dX7_countDown_8 : decode cX7_countDown 8 = .ok (.aload_n 0, 1) := by decide +kernel
theorem dX7_countDown_9 : decode cX7_countDown 9 = .ok (.dup, 1) := by decide +kernel
theorem dX7_countDown_10 : decode cX7_countDown 10 = .ok (.getfield 50, 3) := by decide +kernel
theorem dX7_countDown_13 : decode cX7_countDown 13 = .ok (.iconst 1, 1) := by decide +kernel
theorem dX7_countDown_14 : decode cX7_countDown 14 = .ok (.isub, 1) := by decide +kernel
theorem dX7_countDown_15 : decode cX7_countDown 15 = .ok (.putfield 50, 3) := by decide +kernel
theorem dX7_countDown_18 : decode cX7_countDown 18 = .ok (.aload_n 0, 1) := by decide +kernel
theorem dX7_countDown_19 : decode cX7_countDown 19 = .ok (.getfield 50, 3) := by decide +kernel
theorem dX7_countDown_22 : decode cX7_countDown 22 = .ok (.ifCond .le 4, 3) := by decide +kernel
theorem dX7_countDown_25 : decode cX7_countDown 25 = .ok (.return_, 1) := by decide +kernel
theorem dX7_countDown_26 : decode cX7_countDown 26 = .ok (.aload_n 0, 1) := by decide +kernel
theorem dX7_countDown_27 : decode cX7_countDown 27 = .ok (.iconst 1, 1) := by decide +kernel
theorem dX7_countDown_28 : decode cX7_countDown 28 = .ok (.putfield 43, 3) := by decide +kernel
theorem dX7_countDown_31 : decode cX7_countDown 31 = .ok (.aload_n 0, 1) := by decide +kernel
theorem dX7_countDown_32 : decode cX7_countDown 32 = .ok (.getfield 29, 3) := by decide +kernel
theorem dX7_countDown_35 : decode cX7_countDown 35 = .ok (.getfield 56, 3) := by decide +kernel
theorem dX7_countDown_38 : decode cX7_countDown 38 = .ok (.ifCond .eq 17, 3) := by decide +kernel
theorem dX7_countDown_41 : decode cX7_countDown 41 = .ok (.aload_n 0, 1) := by decide +kernel
theorem dX7_countDown_42 : decode cX7_countDown 42 = .ok (.getfield 37, 3) := by decide +kernel
theorem dX7_countDown_45 : decode cX7_countDown 45 = .ok (.aload_n 0, 1) := by decide +kernel
theorem dX7_countDown_46 : decode cX7_countDown 46 = .ok (.getfield 34, 3) := by decide +kernel
theorem dX7_countDown_49 : decode cX7_countDown 49 = .ok (.isub, 1) := by decide +kernel
theorem dX7_countDown_50 : decode cX7_countDown 50 = .ok (.bipush 16, 2) := by decide +kernel
theorem dX7_countDown_52 : decode cX7_countDown 52 = .ok (.if_icmp .ne 7, 3) := by decide +kernel
theorem dX7_countDown_55 : decode cX7_countDown 55 = .ok (.iconst 1, 1) := by decide +kernel
theorem dX7_countDown_56 : decode cX7_countDown 56 = .ok (.goto 4, 3) := by decide +kernel
theorem dX7_countDown_59 : decode cX7_countDown 59 = .ok (.iconst 0, 1) := by decide +kernel
theorem dX7_countDown_60 : decode cX7_countDown 60 = .ok (.istore_n 1, 1) := by decide +kernel
theorem dX7_countDown_61 : decode cX7_countDown 61 = .ok (.aload_n 0, 1) := by decide +kernel
theorem dX7_countDown_62 : decode cX7_countDown 62 = .ok (.getfield 40, 3) := by decide +kernel
theorem dX7_countDown_65 : decode cX7_countDown 65 = .ok (.ifCond .ne 34, 3) := by decide +kernel
theorem dX7_countDown_68 : decode cX7_countDown 68 = .ok (.aload_n 0, 1) := by decide +kernel
theorem dX7_countDown_69 : decode cX7_countDown 69 = .ok (.getfield 34, 3) := by decide +kernel
theorem dX7_countDown_72 : decode cX7_countDown 72 = .ok (.aload_n 0, 1) := by decide +kernel
theorem dX7_countDown_73 : decode cX7_countDown 73 = .ok (.getfield 37, 3) := by decide +kernel
theorem dX7_countDown_76 : decode cX7_countDown 76 = .ok (.if_icmp .ge 23, 3) := by decide +kernel
theorem dX7_countDown_79 : decode cX7_countDown 79 = .ok (.iload_n 1, 1) := by decide +kernel
theorem dX7_countDown_80 : decode cX7_countDown 80 = .ok (.ifCond .eq 19, 3) := by decide +kernel
theorem dX7_countDown_83 : decode cX7_countDown 83 = .ok (.aload_n 0, 1) := by decide +kernel
theorem dX7_countDown_84 : decode cX7_countDown 84 = .ok (.aload_n 0, 1) := by decide +kernel
theorem dX7_countDown_85 : decode cX7_countDown 85 = .ok (.aload_n 0, 1) := by decide +kernel
theorem dX7_countDown_86 : decode cX7_countDown 86 = .ok (.getfield 34, 3) := by decide +kernel
theorem dX7_countDown_89 : decode cX7_countDown 89 = .ok (.invokevirtual 59, 3) := by decide +kernel
theorem dX7_countDown_92 : decode cX7_countDown 92 = .ok (.iconst 0, 1) := by decide +kernel
theorem dX7_countDown_93 : decode cX7_countDown 93 = .ok (.sipush 240, 3) := by decide +kernel
theorem dX7_countDown_96 : decode cX7_countDown 96 = .ok (.invokevirtual 63, 3) := by decide +kernel
theorem dX7_countDown_99 : decode cX7_countDown 99 = .ok (.return_, 1) := by decide +kernel
theorem dX7_prepare_0 : decode cX7_prepare 0 = .ok (.aload_n 0, 1) := by decide +kernel
theorem dX7_prepare_1 : decode cX7_prepare 1 = .ok (.getfield 47, 3) := by decide +kernel
theorem dX7_prepare_4 : decode cX7_prepare 4 = .ok (.ifCond .ne 44, 3) := by decide +kernel
theorem dX7_prepare_7 : decode cX7_prepare 7 = .ok (.aload_n 0, 1) := by decide +kernel
theorem dX7_prepare_8 : decode cX7_prepare 8 = .ok (.getfield 50, 3) := by decide +kernel
theorem dX7_prepare_11 : decode cX7_prepare 11 = .ok (.ifCond .ne 37, 3) := by decide +kernel
theorem dX7_prepare_14 : decode cX7_prepare 14 = .ok (.aload_n 0, 1) := by decide +kernel
theorem dX7_prepare_15 : decode cX7_prepare 15 = .ok (.getfield 34, 3) := by decide +kernel
theorem dX7_prepare_18 : decode cX7_prepare 18 = .ok (.aload_n 0, 1) := by decide +kernel
theorem dX7_prepare_19 : decode cX7_prepare 19 = .ok (.getfield 37, 3) := by decide +kernel
theorem dX7_prepare_22 : decode cX7_prepare 22 = .ok (.if_icmp .ge 26, 3) := by decide +kernel
theorem dX7_prepare_25 : decode cX7_prepare 25 = .ok (.aload_n 0, 1) := by decide +kernel
theorem dX7_prepare_26 : decode cX7_prepare 26 = .ok (.getfield 29, 3) := by decide +kernel
theorem dX7_prepare_29 : decode cX7_prepare 29 = .ok (.getfield 56, 3) := by decide +kernel
theorem dX7_prepare_32 : decode cX7_prepare 32 = .ok (.ifCond .ne 16, 3) := by decide +kernel
theorem dX7_prepare_35 : decode cX7_prepare 35 = .ok (.aload_n 0, 1) := by decide +kernel
theorem dX7_prepare_36 : decode cX7_prepare 36 = .ok (.getfield 40, 3) := by decide +kernel
theorem dX7_prepare_39 : decode cX7_prepare 39 = .ok (.ifCond .ne 9, 3) := by decide +kernel
theorem dX7_prepare_42 : decode cX7_prepare 42 = .ok (.aload_n 0, 1) := by decide +kernel
theorem dX7_prepare_43 : decode cX7_prepare 43 = .ok (.bipush 10, 2) := by decide +kernel
theorem dX7_prepare_45 : decode cX7_prepare 45 = .ok (.putfield 50, 3) := by decide +kernel
theorem dX7_prepare_48 : decode cX7_prepare 48 = .ok (.aload_n 0, 1) := by decide +kernel
theorem dX7_prepare_49 : decode cX7_prepare 49 = .ok (.getfield 67, 3) := by decide +kernel
theorem dX7_prepare_52 : decode cX7_prepare 52 = .ok (.iconst 5, 1) := by decide +kernel
theorem dX7_prepare_53 : decode cX7_prepare 53 = .ok (.aload_n 0, 1) := by decide +kernel
theorem dX7_prepare_54 : decode cX7_prepare 54 = .ok (.getfield 17, 3) := by decide +kernel
theorem dX7_prepare_57 : decode cX7_prepare 57 = .ok (.imul, 1) := by decide +kernel
theorem dX7_prepare_58 : decode cX7_prepare 58 = .ok (.if_icmp .ge 25, 3) := by decide +kernel
theorem dX7_prepare_61 : decode cX7_prepare 61 = .ok (.aload_n 0, 1) := by decide +kernel
theorem dX7_prepare_62 : decode cX7_prepare 62 = .ok (.aload_n 0, 1) := by decide +kernel
theorem dX7_prepare_63 : decode cX7_prepare 63 = .ok (.getfield 67, 3) := by decide +kernel
theorem dX7_prepare_66 : decode cX7_prepare 66 = .ok (.aload_n 0, 1) := by decide +kernel
theorem dX7_prepare_67 : decode cX7_prepare 67 = .ok (.getfield 17, 3) := by decide +kernel
theorem dX7_prepare_70 : decode cX7_prepare 70 = .ok (.iadd, 1) := by decide +kernel
theorem dX7_prepare_71 : decode cX7_prepare 71 = .ok (.iconst 5, 1) := by decide +kernel
theorem dX7_prepare_72 : decode cX7_prepare 72 = .ok (.aload_n 0, 1) := by decide +kernel
theorem dX7_prepare_73 : decode cX7_prepare 73 = .ok (.getfield 17, 3) := by decide +kernel
theorem dX7_prepare_76 : decode cX7_prepare 76 = .ok (.imul, 1) := by decide +kernel
theorem dX7_prepare_77 : decode cX7_prepare 77 = .ok (.invokestatic 70, 3) := by decide +kernel
theorem dX7_prepare_80 : decode cX7_prepare 80 = .ok (.putfield 67, 3) := by decide +kernel
theorem dX7_prepare_83 : decode cX7_prepare 83 = .ok (.return_, 1) := by decide +kernel
set_option maxRecDepth 20000 in
theorem ggX7_bringAgain_X5_markCell : GoodIn wsX7_bringAgain wsX5_markCell := goodIn_r _ [7, 8, 9, 10, 11, 12, 13, 14, 15] (by decide +kernel) (by decide +kernel)
set_option maxRecDepth 20000 in
theorem gX7_bringAgain_X5_markCell : GoodIn wsX7_bringAgain (wsV RX7 85 RX5 yX5_markCell wsX5_markCell) := goodIn_app (goodIn_of _ (by decide +kernel)) ggX7_bringAgain_X5_markCell
theorem dX7_bringAgain_0 : decode cX7_bringAgain 0 = .ok (.aload_n 1, 1) := by decide +kernel
theorem dX7_bringAgain_1 : decode cX7_bringAgain 1 = .ok (.getfield 76, 3) := by decide +kernel
theorem dX7_bringAgain_4 : decode cX7_bringAgain 4 = .ok (.ifCond .ne 37, 3) := by decide +kernel
theorem dX7_bringAgain_7 : decode cX7_bringAgain 7 = .ok (.aload_n 1, 1) := by decide +kernel
theorem dX7_bringAgain_8 : decode cX7_bringAgain 8 = .ok (.dup, 1) := by decide +kernel
theorem dX7_bringAgain_9 : decode cX7_bringAgain 9 = .ok (.getfield 79, 3) := by decide +kernel
theorem dX7_bringAgain_12 : decode cX7_bringAgain 12 = .ok (.iconst 1, 1) := by decide +kernel
theorem dX7_bringAgain_13 : decode cX7_bringAgain 13 = .ok (.iadd, 1) := by decide +kernel
theorem dX7_bringAgain_14 : decode cX7_bringAgain 14 = .ok (.putfield 79, 3) := by decide +kernel
theorem dX7_bringAgain_17 : decode cX7_bringAgain 17 = .ok (.aload_n 0, 1) := by decide +kernel
theorem dX7_bringAgain_18 : decode cX7_bringAgain 18 = .ok (.aload_n 0, 1) := by decide +kernel
theorem dX7_bringAgain_19 : decode cX7_bringAgain 19 = .ok (.getfield 47, 3) := by decide +kernel
theorem dX7_bringAgain_22 : decode cX7_bringAgain 22 = .ok (.ifCond .ne 11, 3) := by decide +kernel
theorem dX7_bringAgain_25 : decode cX7_bringAgain 25 = .ok (.aload_n 1, 1) := by decide +kernel
theorem dX7_bringAgain_26 : decode cX7_bringAgain 26 = .ok (.getfield 79, 3) := by decide +kernel
theorem dX7_bringAgain_29 : decode cX7_bringAgain 29 = .ok (.iconst 5, 1) := by decide +kernel
theorem dX7_bringAgain_30 : decode cX7_bringAgain 30 = .ok (.if_icmp .lt 7, 3) := by decide +kernel
theorem dX7_bringAgain_33 : decode cX7_bringAgain 33 = .ok (.iconst 1, 1) := by decide +kernel
theorem dX7_bringAgain_34 : decode cX7_bringAgain 34 = .ok (.goto 4, 3) := by decide +kernel
theorem dX7_bringAgain_37 : decode cX7_bringAgain 37 = .ok (.iconst 0, 1) := by decide +kernel
theorem dX7_bringAgain_38 : decode cX7_bringAgain 38 = .ok (.putfield 47, 3) := by decide +kernel
theorem dX7_bringAgain_41 : decode cX7_bringAgain 41 = .ok (.aload_n 1, 1) := by decide +kernel
theorem dX7_bringAgain_42 : decode cX7_bringAgain 42 = .ok (.getfield 76, 3) := by decide +kernel
theorem dX7_bringAgain_45 : decode cX7_bringAgain 45 = .ok (.istore 4, 2) := by decide +kernel
theorem dX7_bringAgain_47 : decode cX7_bringAgain 47 = .ok (.iload_n 2, 1) := by decide +kernel
theorem dX7_bringAgain_48 : decode cX7_bringAgain 48 = .ok (.istore 5, 2) := by decide +kernel
theorem dX7_bringAgain_50 : decode cX7_bringAgain 50 = .ok (.iload 5, 2) := by decide +kernel
theorem dX7_bringAgain_52 : decode cX7_bringAgain 52 = .ok (.iload_n 3, 1) := by decide +kernel
theorem dX7_bringAgain_53 : decode cX7_bringAgain 53 = .ok (.if_icmp .ge 24, 3) := by decide +kernel
theorem dX7_bringAgain_56 : decode cX7_bringAgain 56 = .ok (.iload 5, 2) := by decide +kernel
theorem dX7_bringAgain_58 : decode cX7_bringAgain 58 = .ok (.aload_n 1, 1) := by decide +kernel
theorem dX7_bringAgain_59 : decode cX7_bringAgain 59 = .ok (.getfield 82, 3) := by decide +kernel
theorem dX7_bringAgain_62 : decode cX7_bringAgain 62 = .ok (.if_icmp .ge 15, 3) := by decide +kernel
theorem dX7_bringAgain_65 : decode cX7_bringAgain 65 = .ok (.aload_n 1, 1) := by decide +kernel
theorem dX7_bringAgain_66 : decode cX7_bringAgain 66 = .ok (.iload 5, 2) := by decide +kernel
theorem dX7_bringAgain_68 : decode cX7_bringAgain 68 = .ok (.invokevirtual 85, 3) := by decide +kernel
theorem dX7_bringAgain_71 : decode cX7_bringAgain 71 = .ok (.iinc 5 1, 3) := by decide +kernel
theorem dX7_bringAgain_74 : decode cX7_bringAgain 74 = .ok (.goto (-24), 3) := by decide +kernel
theorem dX7_bringAgain_77 : decode cX7_bringAgain 77 = .ok (.aload_n 0, 1) := by decide +kernel
theorem dX7_bringAgain_78 : decode cX7_bringAgain 78 = .ok (.dup, 1) := by decide +kernel
theorem dX7_bringAgain_79 : decode cX7_bringAgain 79 = .ok (.getfield 40, 3) := by decide +kernel
theorem dX7_bringAgain_82 : decode cX7_bringAgain 82 = .ok (.aload_n 1, 1) := by decide +kernel
theorem dX7_bringAgain_83 : decode cX7_bringAgain 83 = .ok (.getfield 76, 3) := by decide +kernel
theorem dX7_bringAgain_86 : decode cX7_bringAgain 86 = .ok (.iload 4, 2) := by decide +kernel
theorem dX7_bringAgain_88 : decode cX7_bringAgain 88 = .ok (.isub, 1) := by decide +kernel
theorem dX7_bringAgain_89 : decode cX7_bringAgain 89 = .ok (.iadd, 1) := by decide +kernel
theorem dX7_bringAgain_90 : decode cX7_bringAgain 90 = .ok (.putfield 40, 3) := by decide +kernel
theorem dX7_bringAgain_93 : decode cX7_bringAgain 93 = .ok (.return_, 1) := by decide +kernel
set_option maxRecDepth 20000 in
theorem ggX7_makeAgain_X7_pieceAt : GoodIn wsX7_makeAgain wsX7_pieceAt := goodIn_r _ [8, 9, 69, 70, 71, 72, 73, 74, 75, 76, 77, 78, 79, 80, 81, 82, 83] (by decide +kernel) (by decide +kernel)
set_option maxRecDepth 20000 in
theorem gX7_makeAgain_X7_pieceAt : GoodIn wsX7_makeAgain (wsV RX7 59 RX7 yX7_pieceAt wsX7_pieceAt) := goodIn_app (goodIn_of _ (by decide +kernel)) ggX7_makeAgain_X7_pieceAt
set_option maxRecDepth 20000 in
theorem ggX7_makeAgain_X5_nextMark : GoodIn wsX7_makeAgain wsX5_nextMark := goodIn_r _ [14, 15, 16, 17, 18, 19, 84, 85, 86, 87, 88, 89] (by decide +kernel) (by decide +kernel)
set_option maxRecDepth 20000 in
theorem gX7_makeAgain_X5_nextMark : GoodIn wsX7_makeAgain (wsV RX7 88 RX5 yX5_nextMark wsX5_nextMark) := goodIn_app (goodIn_of _ (by decide +kernel)) ggX7_makeAgain_X5_nextMark
set_option maxRecDepth 20000 in
theorem ggX7_makeAgain_X5_innerEnds : GoodIn wsX7_makeAgain wsX5_innerEnds := goodIn_r _ [23, 24, 25, 26, 13, 27, 19, 84, 85, 86, 87, 88, 89] (by decide +kernel) (by decide +kernel)
set_option maxRecDepth 20000 in
theorem gX7_makeAgain_X5_innerEnds : GoodIn wsX7_makeAgain (wsV RX7 92 RX5 yX5_innerEnds wsX5_innerEnds) := goodIn_app (goodIn_of _ (by decide +kernel)) ggX7_makeAgain_X5_innerEnds
set_option maxRecDepth 20000 in
theorem ggX7_makeAgain_X5_fitting : GoodIn wsX7_makeAgain wsX5_fitting := goodIn_r _ [31, 24, 25, 26, 13, 27, 19, 84, 85, 86, 87, 88, 89] (by decide +kernel) (by decide +kernel)
set_option maxRecDepth 20000 in
theorem gX7_makeAgain_X5_fitting : GoodIn wsX7_makeAgain (wsV RX7 95 RX5 yX5_fitting wsX5_fitting) := goodIn_app (goodIn_of _ (by decide +kernel)) ggX7_makeAgain_X5_fitting
set_option maxRecDepth 20000 in
theorem ggX7_makeAgain_X5_unmarkCell : GoodIn wsX7_makeAgain wsX5_unmarkCell := goodIn_r _ [35, 19, 36, 84, 85, 86, 87, 88, 89] (by decide +kernel) (by decide +kernel)
set_option maxRecDepth 20000 in
theorem gX7_makeAgain_X5_unmarkCell : GoodIn wsX7_makeAgain (wsV RX7 99 RX5 yX5_unmarkCell wsX5_unmarkCell) := goodIn_app (goodIn_of _ (by decide +kernel)) ggX7_makeAgain_X5_unmarkCell
set_option maxRecDepth 20000 in
theorem ggX7_makeAgain_X7_countData : GoodIn wsX7_makeAgain wsX7_countData := goodIn_r _ [40, 41, 42, 2, 43, 1, 44, 45, 46, 47, 69, 70, 71, 72, 73, 74, 75, 76, 77, 78, 79, 80, 81, 82, 83, 90, 91, 92, 93, 94, 95, 96, 97, 98, 99, 100, 101, 102, 103, 104] (by decide +kernel) (by decide +kernel)
set_option maxRecDepth 20000 in
theorem gX7_makeAgain_X7_countData : GoodIn wsX7_makeAgain (wsV RX7 105 RX7 yX7_countData wsX7_countData) := goodIn_app (goodIn_of _ (by decide +kernel)) ggX7_makeAgain_X7_countData
set_option maxRecDepth 20000 in
theorem ggX7_makeAgain_X5_writeData : GoodIn wsX7_makeAgain wsX5_writeData := goodIn_r _ [51, 52, 53, 21, 22, 13, 23, 24, 25, 26, 27, 19, 54, 55, 56, 57, 58, 59, 60, 61, 62, 63, 64, 65, 66, 67, 68, 84, 85, 86, 87, 88, 89, 105, 106] (by decide +kernel) (by decide +kernel)
set_option maxRecDepth 20000 in
theorem gX7_makeAgain_X5_writeData : GoodIn wsX7_makeAgain (wsV RX7 109 RX5 yX5_writeData wsX5_writeData) := goodIn_app (goodIn_of _ (by decide +kernel)) ggX7_makeAgain_X5_writeData
theorem dX7_makeAgain_0 : decode cX7_makeAgain 0 = .ok (.aload_n 0, 1) := by decide +kernel
theorem dX7_makeAgain_1 : decode cX7_makeAgain 1 = .ok (.getfield 34, 3) := by decide +kernel
theorem dX7_makeAgain_4 : decode cX7_makeAgain 4 = .ok (.istore_n 3, 1) := by decide +kernel
theorem dX7_makeAgain_5 : decode cX7_makeAgain 5 = .ok (.iconst 0, 1) := by decide +kernel
theorem dX7_makeAgain_6 : decode cX7_makeAgain 6 = .ok (.istore 4, 2) := by decide +kernel
theorem dX7_makeAgain_8 : decode cX7_makeAgain 8 = .ok (.iload 4, 2) := by decide +kernel
theorem dX7_makeAgain_10 : decode cX7_makeAgain 10 = .ok (.bipush 16, 2) := by decide +kernel
theorem dX7_makeAgain_12 : decode cX7_makeAgain 12 = .ok (.if_icmp .ge 23, 3) := by decide +kernel
theorem dX7_makeAgain_15 : decode cX7_makeAgain 15 = .ok (.aload_n 0, 1) := by decide +kernel
theorem dX7_makeAgain_16 : decode cX7_makeAgain 16 = .ok (.iload_n 3, 1) := by decide +kernel
theorem dX7_makeAgain_17 : decode cX7_makeAgain 17 = .ok (.invokevirtual 59, 3) := by decide +kernel
theorem dX7_makeAgain_20 : decode cX7_makeAgain 20 = .ok (.getfield 76, 3) := by decide +kernel
theorem dX7_makeAgain_23 : decode cX7_makeAgain 23 = .ok (.ifCond .ne 12, 3) := by decide +kernel
theorem dX7_makeAgain_26 : decode cX7_makeAgain 26 = .ok (.iinc 3 1, 3) := by decide +kernel
theorem dX7_makeAgain_29 : decode cX7_makeAgain 29 = .ok (.iinc 4 1, 3) := by decide +kernel
theorem dX7_makeAgain_32 : decode cX7_makeAgain 32 = .ok (.goto (-24), 3) := by decide +kernel
theorem dX7_makeAgain_35 : decode cX7_makeAgain 35 = .ok (.aload_n 0, 1) := by decide +kernel
theorem dX7_makeAgain_36 : decode cX7_makeAgain 36 = .ok (.iload_n 3, 1) := by decide +kernel
theorem dX7_makeAgain_37 : decode cX7_makeAgain 37 = .ok (.invokevirtual 59, 3) := by decide +kernel
theorem dX7_makeAgain_40 : decode cX7_makeAgain 40 = .ok (.astore 4, 2) := by decide +kernel
theorem dX7_makeAgain_42 : decode cX7_makeAgain 42 = .ok (.aload 4, 2) := by decide +kernel
theorem dX7_makeAgain_44 : decode cX7_makeAgain 44 = .ok (.iconst 0, 1) := by decide +kernel
theorem dX7_makeAgain_45 : decode cX7_makeAgain 45 = .ok (.aload 4, 2) := by decide +kernel
theorem dX7_makeAgain_47 : decode cX7_makeAgain 47 = .ok (.getfield 82, 3) := by decide +kernel
theorem dX7_makeAgain_50 : decode cX7_makeAgain 50 = .ok (.iconst 1, 1) := by decide +kernel
theorem dX7_makeAgain_51 : decode cX7_makeAgain 51 = .ok (.invokevirtual 88, 3) := by decide +kernel
theorem dX7_makeAgain_54 : decode cX7_makeAgain 54 = .ok (.istore 5, 2) := by decide +kernel
theorem dX7_makeAgain_56 : decode cX7_makeAgain 56 = .ok (.aload 4, 2) := by decide +kernel
theorem dX7_makeAgain_58 : decode cX7_makeAgain 58 = .ok (.iload 5, 2) := by decide +kernel
theorem dX7_makeAgain_60 : decode cX7_makeAgain 60 = .ok (.aload 4, 2) := by decide +kernel
theorem dX7_makeAgain_62 : decode cX7_makeAgain 62 = .ok (.getfield 82, 3) := by decide +kernel
theorem dX7_makeAgain_65 : decode cX7_makeAgain 65 = .ok (.iconst 0, 1) := by decide +kernel
theorem dX7_makeAgain_66 : decode cX7_makeAgain 66 = .ok (.invokevirtual 88, 3) := by decide +kernel
theorem dX7_makeAgain_69 : decode cX7_makeAgain 69 = .ok (.istore 6, 2) := by decide +kernel
theorem dX7_makeAgain_71 : decode cX7_makeAgain 71 = .ok (.iload 5, 2) := by decide +kernel
theorem dX7_makeAgain_73 : decode cX7_makeAgain 73 = .ok (.ifCond .ne 17, 3) := by decide +kernel
theorem dX7_makeAgain_76 : decode cX7_makeAgain 76 = .ok (.iload 6, 2) := by decide +kernel
theorem dX7_makeAgain_78 : decode cX7_makeAgain 78 = .ok (.aload 4, 2) := by decide +kernel
theorem dX7_makeAgain_80 : decode cX7_makeAgain 80 = .ok (.getfield 82, 3) := by decide +kernel
theorem dX7_makeAgain_83 : decode cX7_makeAgain 83 = .ok (.if_icmp .ne 7, 3) := by decide +kernel
theorem dX7_makeAgain_86 : decode cX7_makeAgain 86 = .ok (.iconst 1, 1) := by decide +kernel
theorem dX7_makeAgain_87 : decode cX7_makeAgain 87 = .ok (.goto 4, 3) := by decide +kernel
theorem dX7_makeAgain_90 : decode cX7_makeAgain 90 = .ok (.iconst 0, 1) := by decide +kernel
theorem dX7_makeAgain_91 : decode cX7_makeAgain 91 = .ok (.istore 7, 2) := by decide +kernel
theorem dX7_makeAgain_93 : decode cX7_makeAgain 93 = .ok (.iload 7, 2) := by decide +kernel
theorem dX7_makeAgain_95 : decode cX7_makeAgain 95 = .ok (.ifCond .eq 20, 3) := by decide +kernel
theorem dX7_makeAgain_98 : decode cX7_makeAgain 98 = .ok (.iconst 2, 1) := by decide +kernel
theorem dX7_makeAgain_99 : decode cX7_makeAgain 99 = .ok (.aload 4, 2) := by decide +kernel
theorem dX7_makeAgain_101 : decode cX7_makeAgain 101 = .ok (.iconst 0, 1) := by decide +kernel
theorem dX7_makeAgain_102 : decode cX7_makeAgain 102 = .ok (.iload 6, 2) := by decide +kernel
theorem dX7_makeAgain_104 : decode cX7_makeAgain 104 = .ok (.invokevirtual 92, 3) := by decide +kernel
theorem dX7_makeAgain_107 : decode cX7_makeAgain 107 = .ok (.iadd, 1) := by decide +kernel
theorem dX7_makeAgain_108 : decode cX7_makeAgain 108 = .ok (.iload 6, 2) := by decide +kernel
theorem dX7_makeAgain_110 : decode cX7_makeAgain 110 = .ok (.iadd, 1) := by decide +kernel
theorem dX7_makeAgain_111 : decode cX7_makeAgain 111 = .ok (.iload_n 2, 1) := by decide +kernel
theorem dX7_makeAgain_112 : decode cX7_makeAgain 112 = .ok (.if_icmp .le 23, 3) := by decide +kernel
theorem dX7_makeAgain_115 : decode cX7_makeAgain 115 = .ok (.iload_n 2, 1) := by decide +kernel
theorem dX7_makeAgain_116 : decode cX7_makeAgain 116 = .ok (.iconst 4, 1) := by decide +kernel
theorem dX7_makeAgain_117 : decode cX7_makeAgain 117 = .ok (.if_icmp .ge 4, 3) := by decide +kernel
theorem dX7_makeAgain_120 : decode cX7_makeAgain 120 = .ok (.return_, 1) := by decide +kernel
theorem dX7_makeAgain_121 : decode cX7_makeAgain 121 = .ok (.aload 4, 2) := by decide +kernel
theorem dX7_makeAgain_123 : decode cX7_makeAgain 123 = .ok (.iload 5, 2) := by decide +kernel
theorem dX7_makeAgain_125 : decode cX7_makeAgain 125 = .ok (.iload 6, 2) := by decide +kernel
theorem dX7_makeAgain_127 : decode cX7_makeAgain 127 = .ok (.iload_n 2, 1) := by decide +kernel
theorem dX7_makeAgain_128 : decode cX7_makeAgain 128 = .ok (.iconst 3, 1) := by decide +kernel
theorem dX7_makeAgain_129 : decode cX7_makeAgain 129 = .ok (.isub, 1) := by decide +kernel
theorem dX7_makeAgain_130 : decode cX7_makeAgain 130 = .ok (.invokevirtual 95, 3) := by decide +kernel
theorem dX7_makeAgain_133 : decode cX7_makeAgain 133 = .ok (.istore 6, 2) := by decide +kernel
theorem dX7_makeAgain_135 : decode cX7_makeAgain 135 = .ok (.iload 5, 2) := by decide +kernel
theorem dX7_makeAgain_137 : decode cX7_makeAgain 137 = .ok (.istore 8, 2) := by decide +kernel
theorem dX7_makeAgain_139 : decode cX7_makeAgain 139 = .ok (.iload 8, 2) := by decide +kernel
theorem dX7_makeAgain_141 : decode cX7_makeAgain 141 = .ok (.iload 6, 2) := by decide +kernel
theorem dX7_makeAgain_143 : decode cX7_makeAgain 143 = .ok (.if_icmp .ge 16, 3) := by decide +kernel
theorem dX7_makeAgain_146 : decode cX7_makeAgain 146 = .ok (.aload 4, 2) := by decide +kernel
theorem dX7_makeAgain_148 : decode cX7_makeAgain 148 = .ok (.iload 8, 2) := by decide +kernel
theorem dX7_makeAgain_150 : decode cX7_makeAgain 150 = .ok (.invokevirtual 99, 3) := by decide +kernel
theorem dX7_makeAgain_153 : decode cX7_makeAgain 153 = .ok (.iinc 8 1, 3) := by decide +kernel
theorem dX7_makeAgain_156 : decode cX7_makeAgain 156 = .ok (.goto (-17), 3) := by decide +kernel
theorem dX7_makeAgain_159 : decode cX7_makeAgain 159 = .ok (.aload_n 0, 1) := by decide +kernel
theorem dX7_makeAgain_160 : decode cX7_makeAgain 160 = .ok (.dup, 1) := by decide +kernel
theorem dX7_makeAgain_161 : decode cX7_makeAgain 161 = .ok (.getfield 40, 3) := by decide +kernel
theorem dX7_makeAgain_164 : decode cX7_makeAgain 164 = .ok (.iload 6, 2) := by decide +kernel
theorem dX7_makeAgain_166 : decode cX7_makeAgain 166 = .ok (.iload 5, 2) := by decide +kernel
theorem dX7_makeAgain_168 : decode cX7_makeAgain 168 = .ok (.isub, 1) := by decide +kernel
theorem dX7_makeAgain_169 : decode cX7_makeAgain 169 = .ok (.isub, 1) := by decide +kernel
theorem dX7_makeAgain_170 : decode cX7_makeAgain 170 = .ok (.putfield 40, 3) := by decide +kernel
theorem dX7_makeAgain_173 : decode cX7_makeAgain 173 = .ok (.aload_n 0, 1) := by decide +kernel
theorem dX7_makeAgain_174 : decode cX7_makeAgain 174 = .ok (.dup, 1) := by decide +kernel
theorem dX7_makeAgain_175 : decode cX7_makeAgain 175 = .ok (.getfield 102, 3) := by decide +kernel
theorem dX7_makeAgain_178 : decode cX7_makeAgain 178 = .ok (.iconst 1, 1) := by decide +kernel
theorem dX7_makeAgain_179 : decode cX7_makeAgain 179 = .ok (.iadd, 1) := by decide +kernel
theorem dX7_makeAgain_180 : decode cX7_makeAgain 180 = .ok (.putfield 102, 3) := by decide +kernel
theorem dX7_makeAgain_183 : decode cX7_makeAgain 183 = .ok (.aload 4, 2) := by decide +kernel
theorem dX7_makeAgain_185 : decode cX7_makeAgain 185 = .ok (.aload_n 1, 1) := by decide +kernel
theorem dX7_makeAgain_186 : decode cX7_makeAgain 186 = .ok (.iload_n 3, 1) := by decide +kernel
theorem dX7_makeAgain_187 : decode cX7_makeAgain 187 = .ok (.iload 5, 2) := by decide +kernel
theorem dX7_makeAgain_189 : decode cX7_makeAgain 189 = .ok (.iload 6, 2) := by decide +kernel
theorem dX7_makeAgain_191 : decode cX7_makeAgain 191 = .ok (.aload_n 0, 1) := by decide +kernel
theorem dX7_makeAgain_192 : decode cX7_makeAgain 192 = .ok (.invokevirtual 105, 3) := by decide +kernel
theorem dX7_makeAgain_195 : decode cX7_makeAgain 195 = .ok (.invokevirtual 109, 3) := by decide +kernel
theorem dX7_makeAgain_198 : decode cX7_makeAgain 198 = .ok (.return_, 1) := by decide +kernel
set_option maxRecDepth 20000 in
theorem ggX7_makeNew_X7_pieceAt : GoodIn wsX7_makeNew wsX7_pieceAt := goodIn_r _ [8, 9, 119, 120, 121, 122, 123, 124, 125, 126, 127, 128, 129, 130, 131, 132, 133] (by decide +kernel) (by decide +kernel)
set_option maxRecDepth 20000 in
theorem gX7_makeNew_X7_pieceAt : GoodIn wsX7_makeNew (wsV RX7 59 RX7 yX7_pieceAt wsX7_pieceAt) := goodIn_app (goodIn_of _ (by decide +kernel)) ggX7_makeNew_X7_pieceAt
set_option maxRecDepth 20000 in
theorem ggX7_makeNew_X5_clear : GoodIn wsX7_makeNew wsX5_clear := goodIn_r _ [14, 15, 16, 17, 18, 19, 20, 21, 22, 23, 24, 149, 150, 151, 152, 153, 154] (by decide +kernel) (by decide +kernel)
set_option maxRecDepth 20000 in
theorem gX7_makeNew_X5_clear : GoodIn wsX7_makeNew (wsV RX7 113 RX5 yX5_clear wsX5_clear) := goodIn_app (goodIn_of _ (by decide +kernel)) ggX7_makeNew_X5_clear
set_option maxRecDepth 20000 in
theorem ggX7_makeNew_X5_has : GoodIn wsX7_makeNew wsX5_has := goodIn_r _ [28, 15, 149, 150, 151, 152, 153, 154] (by decide +kernel) (by decide +kernel)
set_option maxRecDepth 20000 in
theorem gX7_makeNew_X5_has : GoodIn wsX7_makeNew (wsV RX7 116 RX5 yX5_has wsX5_has) := goodIn_app (goodIn_of _ (by decide +kernel)) ggX7_makeNew_X5_has
set_option maxRecDepth 20000 in
theorem ggX7_makeNew_X4_openFront : GoodIn wsX7_makeNew wsX4_openFront := goodIn_r _ [33, 34, 35, 36, 37, 38, 39, 40, 41, 42, 43, 44, 45, 46, 47, 48, 32, 49, 50, 51, 52, 53, 54, 55, 56, 57, 58, 59, 60, 22, 23, 24, 61, 62, 63, 64, 65, 66, 134, 135, 136, 137, 138, 139, 140, 141, 142, 143, 144, 145, 146, 147, 148, 155, 156, 157] (by decide +kernel) (by decide +kernel)
set_option maxRecDepth 20000 in
theorem gX7_makeNew_X4_openFront : GoodIn wsX7_makeNew (wsV RX7 123 RX4 yX4_openFront wsX4_openFront) := goodIn_app (goodIn_of _ (by decide +kernel)) ggX7_makeNew_X4_openFront
set_option maxRecDepth 20000 in
theorem ggX7_makeNew_X4_takeCell : GoodIn wsX7_makeNew wsX4_takeCell := goodIn_r _ [70, 71, 37, 34, 35, 72, 73, 74, 32, 75, 76, 77, 78, 79, 80, 134, 135, 136, 137, 138, 139, 140, 141, 142, 143, 144, 145, 146, 147, 148] (by decide +kernel) (by decide +kernel)
set_option maxRecDepth 20000 in
theorem gX7_makeNew_X4_takeCell : GoodIn wsX7_makeNew (wsV RX7 127 RX4 yX4_takeCell wsX4_takeCell) := goodIn_app (goodIn_of _ (by decide +kernel)) ggX7_makeNew_X4_takeCell
set_option maxRecDepth 20000 in
theorem ggX7_makeNew_X5_append : GoodIn wsX7_makeNew wsX5_append := goodIn_r _ [84, 16, 15, 149, 150, 151, 152, 153, 154] (by decide +kernel) (by decide +kernel)
set_option maxRecDepth 20000 in
theorem gX7_makeNew_X5_append : GoodIn wsX7_makeNew (wsV RX7 131 RX5 yX5_append wsX5_append) := goodIn_app (goodIn_of _ (by decide +kernel)) ggX7_makeNew_X5_append
set_option maxRecDepth 20000 in
theorem ggX7_makeNew_X7_countData : GoodIn wsX7_makeNew wsX7_countData := goodIn_r _ [88, 89, 1, 90, 2, 3, 91, 92, 93, 94, 119, 120, 121, 122, 123, 124, 125, 126, 127, 128, 129, 130, 131, 132, 133, 134, 135, 136, 137, 138, 139, 140, 141, 142, 143, 144, 145, 146, 147, 148] (by decide +kernel) (by decide +kernel)
set_option maxRecDepth 20000 in
theorem gX7_makeNew_X7_countData : GoodIn wsX7_makeNew (wsV RX7 105 RX7 yX7_countData wsX7_countData) := goodIn_app (goodIn_of _ (by decide +kernel)) ggX7_makeNew_X7_countData
set_option maxRecDepth 20000 in
theorem ggX7_makeNew_X5_writeData : GoodIn wsX7_makeNew wsX5_writeData := goodIn_r _ [98, 16, 99, 100, 101, 13, 102, 103, 26, 27, 28, 15, 104, 105, 106, 107, 108, 109, 110, 111, 112, 113, 114, 115, 116, 117, 118, 149, 150, 151, 152, 153, 154, 158, 159] (by decide +kernel) (by decide +kernel)
set_option maxRecDepth 20000 in
theorem gX7_makeNew_X5_writeData : GoodIn wsX7_makeNew (wsV RX7 109 RX5 yX5_writeData wsX5_writeData) := goodIn_app (goodIn_of _ (by decide +kernel)) ggX7_makeNew_X5_writeData
theorem dX7_makeNew_0 : decode cX7_makeNew 0 = .ok (.aload_n 0, 1) := by decide +kernel
theorem dX7_makeNew_1 : decode cX7_makeNew 1 = .ok (.getfield 29, 3) := by decide +kernel
theorem dX7_makeNew_4 : decode cX7_makeNew 4 = .ok (.getfield 56, 3) := by decide +kernel
theorem dX7_makeNew_7 : decode cX7_makeNew 7 = .ok (.ifCond .eq 22, 3) := by decide +kernel
theorem dX7_makeNew_10 : decode cX7_makeNew 10 = .ok (.aload_n 0, 1) := by decide +kernel
theorem dX7_makeNew_11 : decode cX7_makeNew 11 = .ok (.getfield 37, 3) := by decide +kernel
theorem dX7_makeNew_14 : decode cX7_makeNew 14 = .ok (.aload_n 0, 1) := by decide +kernel
theorem dX7_makeNew_15 : decode cX7_makeNew 15 = .ok (.getfield 34, 3) := by decide +kernel
theorem dX7_makeNew_18 : decode cX7_makeNew 18 = .ok (.isub, 1) := by decide +kernel
theorem dX7_makeNew_19 : decode cX7_makeNew 19 = .ok (.bipush 16, 2) := by decide +kernel
theorem dX7_makeNew_21 : decode cX7_makeNew 21 = .ok (.if_icmp .ge 8, 3) := by decide +kernel
theorem dX7_makeNew_24 : decode cX7_makeNew 24 = .ok (.iload_n 2, 1) := by decide +kernel
theorem dX7_makeNew_25 : decode cX7_makeNew 25 = .ok (.iconst 3, 1) := by decide +kernel
theorem dX7_makeNew_26 : decode cX7_makeNew 26 = .ok (.if_icmp .ge 4, 3) := by decide +kernel
theorem dX7_makeNew_29 : decode cX7_makeNew 29 = .ok (.return_, 1) := by decide +kernel
theorem dX7_makeNew_30 : decode cX7_makeNew 30 = .ok (.aload_n 0, 1) := by decide +kernel
theorem dX7_makeNew_31 : decode cX7_makeNew 31 = .ok (.aload_n 0, 1) := by decide +kernel
theorem dX7_makeNew_32 : decode cX7_makeNew 32 = .ok (.getfield 37, 3) := by decide +kernel
theorem dX7_makeNew_35 : decode cX7_makeNew 35 = .ok (.invokevirtual 59, 3) := by decide +kernel
theorem dX7_makeNew_38 : decode cX7_makeNew 38 = .ok (.astore 4, 2) := by decide +kernel
theorem dX7_makeNew_40 : decode cX7_makeNew 40 = .ok (.aload 4, 2) := by decide +kernel
theorem dX7_makeNew_42 : decode cX7_makeNew 42 = .ok (.iconst 0, 1) := by decide +kernel
theorem dX7_makeNew_43 : decode cX7_makeNew 43 = .ok (.invokevirtual 113, 3) := by decide +kernel
theorem dX7_makeNew_46 : decode cX7_makeNew 46 = .ok (.iload_n 2, 1) := by decide +kernel
theorem dX7_makeNew_47 : decode cX7_makeNew 47 = .ok (.iconst 2, 1) := by decide +kernel
theorem dX7_makeNew_48 : decode cX7_makeNew 48 = .ok (.isub, 1) := by decide +kernel
theorem dX7_makeNew_49 : decode cX7_makeNew 49 = .ok (.istore 5, 2) := by decide +kernel
theorem dX7_makeNew_51 : decode cX7_makeNew 51 = .ok (.iconst 0, 1) := by decide +kernel
theorem dX7_makeNew_52 : decode cX7_makeNew 52 = .ok (.istore 6, 2) := by decide +kernel
theorem dX7_makeNew_54 : decode cX7_makeNew 54 = .ok (.iload 6, 2) := by decide +kernel
theorem dX7_makeNew_56 : decode cX7_makeNew 56 = .ok (.sipush 240, 3) := by decide +kernel
theorem dX7_makeNew_59 : decode cX7_makeNew 59 = .ok (.if_icmp .ge 82, 3) := by decide +kernel
theorem dX7_makeNew_62 : decode cX7_makeNew 62 = .ok (.aload_n 0, 1) := by decide +kernel
theorem dX7_makeNew_63 : decode cX7_makeNew 63 = .ok (.getfield 29, 3) := by decide +kernel
theorem dX7_makeNew_66 : decode cX7_makeNew 66 = .ok (.getfield 56, 3) := by decide +kernel
theorem dX7_makeNew_69 : decode cX7_makeNew 69 = .ok (.ifCond .le 72, 3) := by decide +kernel
theorem dX7_makeNew_72 : decode cX7_makeNew 72 = .ok (.iload 5, 2) := by decide +kernel
theorem dX7_makeNew_74 : decode cX7_makeNew 74 = .ok (.aload 4, 2) := by decide +kernel
theorem dX7_makeNew_76 : decode cX7_makeNew 76 = .ok (.iload 6, 2) := by decide +kernel
theorem dX7_makeNew_78 : decode cX7_makeNew 78 = .ok (.iconst 1, 1) := by decide +kernel
theorem dX7_makeNew_79 : decode cX7_makeNew 79 = .ok (.isub, 1) := by decide +kernel
theorem dX7_makeNew_80 : decode cX7_makeNew 80 = .ok (.sipush 512, 3) := by decide +kernel
theorem dX7_makeNew_83 : decode cX7_makeNew 83 = .ok (.invokevirtual 116, 3) := by decide +kernel
theorem dX7_makeNew_86 : decode cX7_makeNew 86 = .ok (.ifCond .eq 7, 3) := by decide +kernel
theorem dX7_makeNew_89 : decode cX7_makeNew 89 = .ok (.iconst 2, 1) := by decide +kernel
theorem dX7_makeNew_90 : decode cX7_makeNew 90 = .ok (.goto 4, 3) := by decide +kernel
theorem dX7_makeNew_93 : decode cX7_makeNew 93 = .ok (.iconst 1, 1) := by decide +kernel
theorem dX7_makeNew_94 : decode cX7_makeNew 94 = .ok (.isub, 1) := by decide +kernel
theorem dX7_makeNew_95 : decode cX7_makeNew 95 = .ok (.istore 5, 2) := by decide +kernel
theorem dX7_makeNew_97 : decode cX7_makeNew 97 = .ok (.iload 5, 2) := by decide +kernel
theorem dX7_makeNew_99 : decode cX7_makeNew 99 = .ok (.ifCond .ge 6, 3) := by decide +kernel
theorem dX7_makeNew_102 : decode cX7_makeNew 102 = .ok (.goto 39, 3) := by decide +kernel
theorem dX7_makeNew_105 : decode cX7_makeNew 105 = .ok (.aload_n 0, 1) := by decide +kernel
theorem dX7_makeNew_106 : decode cX7_makeNew 106 = .ok (.getfield 29, 3) := by decide +kernel
theorem dX7_makeNew_109 : decode cX7_makeNew 109 = .ok (.getfield 120, 3) := by decide +kernel
theorem dX7_makeNew_112 : decode cX7_makeNew 112 = .ok (.ifCond .ne 11, 3) := by decide +kernel
theorem dX7_makeNew_115 : decode cX7_makeNew 115 = .ok (.aload_n 0, 1) := by decide +kernel
theorem dX7_makeNew_116 : decode cX7_makeNew 116 = .ok (.getfield 29, 3) := by decide +kernel
theorem dX7_makeNew_119 : decode cX7_makeNew 119 = .ok (.aload_n 3, 1) := by decide +kernel
theorem dX7_makeNew_120 : decode cX7_makeNew 120 = .ok (.invokevirtual 123, 3) := by decide +kernel
theorem dX7_makeNew_123 : decode cX7_makeNew 123 = .ok (.aload 4, 2) := by decide +kernel
theorem dX7_makeNew_125 : decode cX7_makeNew 125 = .ok (.aload_n 0, 1) := by decide +kernel
theorem dX7_makeNew_126 : decode cX7_makeNew 126 = .ok (.getfield 29, 3) := by decide +kernel
theorem dX7_makeNew_129 : decode cX7_makeNew 129 = .ok (.invokevirtual 127, 3) := by decide +kernel
theorem dX7_makeNew_132 : decode cX7_makeNew 132 = .ok (.invokevirtual 131, 3) := by decide +kernel
theorem dX7_makeNew_135 : decode cX7_makeNew 135 = .ok (.iinc 6 1, 3) := by decide +kernel
theorem dX7_makeNew_138 : decode cX7_makeNew 138 = .ok (.goto (-84), 3) := by decide +kernel
theorem dX7_makeNew_141 : decode cX7_makeNew 141 = .ok (.aload_n 0, 1) := by decide +kernel
theorem dX7_makeNew_142 : decode cX7_makeNew 142 = .ok (.dup, 1) := by decide +kernel
theorem dX7_makeNew_143 : decode cX7_makeNew 143 = .ok (.getfield 37, 3) := by decide +kernel
theorem dX7_makeNew_146 : decode cX7_makeNew 146 = .ok (.iconst 1, 1) := by decide +kernel
theorem dX7_makeNew_147 : decode cX7_makeNew 147 = .ok (.iadd, 1) := by decide +kernel
theorem dX7_makeNew_148 : decode cX7_makeNew 148 = .ok (.putfield 37, 3) := by decide +kernel
theorem dX7_makeNew_151 : decode cX7_makeNew 151 = .ok (.aload 4, 2) := by decide +kernel
theorem dX7_makeNew_153 : decode cX7_makeNew 153 = .ok (.aload_n 1, 1) := by decide +kernel
theorem dX7_makeNew_154 : decode cX7_makeNew 154 = .ok (.aload_n 0, 1) := by decide +kernel
theorem dX7_makeNew_155 : decode cX7_makeNew 155 = .ok (.getfield 37, 3) := by decide +kernel
theorem dX7_makeNew_158 : decode cX7_makeNew 158 = .ok (.iconst 1, 1) := by decide +kernel
theorem dX7_makeNew_159 : decode cX7_makeNew 159 = .ok (.isub, 1) := by decide +kernel
theorem dX7_makeNew_160 : decode cX7_makeNew 160 = .ok (.iconst 0, 1) := by decide +kernel
theorem dX7_makeNew_161 : decode cX7_makeNew 161 = .ok (.aload 4, 2) := by decide +kernel
theorem dX7_makeNew_163 : decode cX7_makeNew 163 = .ok (.getfield 82, 3) := by decide +kernel
theorem dX7_makeNew_166 : decode cX7_makeNew 166 = .ok (.aload_n 0, 1) := by decide +kernel
theorem dX7_makeNew_167 : decode cX7_makeNew 167 = .ok (.invokevirtual 105, 3) := by decide +kernel
theorem dX7_makeNew_170 : decode cX7_makeNew 170 = .ok (.invokevirtual 109, 3) := by decide +kernel
theorem dX7_makeNew_173 : decode cX7_makeNew 173 = .ok (.return_, 1) := by decide +kernel
theorem dX7_countData_0 : decode cX7_countData 0 = .ok (.aload_n 0, 1) := by decide +kernel
theorem dX7_countData_1 : decode cX7_countData 1 = .ok (.dup, 1) := by decide +kernel
theorem dX7_countData_2 : decode cX7_countData 2 = .ok (.getfield 134, 3) := by decide +kernel
theorem dX7_countData_5 : decode cX7_countData 5 = .ok (.iconst 1, 1) := by decide +kernel
theorem dX7_countData_6 : decode cX7_countData 6 = .ok (.iadd, 1) := by decide +kernel
theorem dX7_countData_7 : decode cX7_countData 7 = .ok (.putfield 134, 3) := by decide +kernel
theorem dX7_countData_10 : decode cX7_countData 10 = .ok (.aload_n 0, 1) := by decide +kernel
theorem dX7_countData_11 : decode cX7_countData 11 = .ok (.getfield 29, 3) := by decide +kernel
theorem dX7_countData_14 : decode cX7_countData 14 = .ok (.getfield 56, 3) := by decide +kernel
theorem dX7_countData_17 : decode cX7_countData 17 = .ok (.ifCond .ne 14, 3) := by decide +kernel
theorem dX7_countData_20 : decode cX7_countData 20 = .ok (.aload_n 0, 1) := by decide +kernel
theorem dX7_countData_21 : decode cX7_countData 21 = .ok (.getfield 40, 3) := by decide +kernel
theorem dX7_countData_24 : decode cX7_countData 24 = .ok (.ifCond .ne 7, 3) := by decide +kernel
theorem dX7_countData_27 : decode cX7_countData 27 = .ok (.iconst 1, 1) := by decide +kernel
theorem dX7_countData_28 : decode cX7_countData 28 = .ok (.goto 4, 3) := by decide +kernel
theorem dX7_countData_31 : decode cX7_countData 31 = .ok (.iconst 0, 1) := by decide +kernel
theorem dX7_countData_32 : decode cX7_countData 32 = .ok (.istore_n 1, 1) := by decide +kernel
theorem dX7_countData_33 : decode cX7_countData 33 = .ok (.aload_n 0, 1) := by decide +kernel
theorem dX7_countData_34 : decode cX7_countData 34 = .ok (.getfield 37, 3) := by decide +kernel
theorem dX7_countData_37 : decode cX7_countData 37 = .ok (.aload_n 0, 1) := by decide +kernel
theorem dX7_countData_38 : decode cX7_countData 38 = .ok (.getfield 34, 3) := by decide +kernel
theorem dX7_countData_41 : decode cX7_countData 41 = .ok (.isub, 1) := by decide +kernel
theorem dX7_countData_42 : decode cX7_countData 42 = .ok (.bipush 16, 2) := by decide +kernel
theorem dX7_countData_44 : decode cX7_countData 44 = .ok (.if_icmp .ne 7, 3) := by decide +kernel
theorem dX7_countData_47 : decode cX7_countData 47 = .ok (.iconst 1, 1) := by decide +kernel
theorem dX7_countData_48 : decode cX7_countData 48 = .ok (.goto 4, 3) := by decide +kernel
theorem dX7_countData_51 : decode cX7_countData 51 = .ok (.iconst 0, 1) := by decide +kernel
theorem dX7_countData_52 : decode cX7_countData 52 = .ok (.istore_n 2, 1) := by decide +kernel
theorem dX7_countData_53 : decode cX7_countData 53 = .ok (.aload_n 0, 1) := by decide +kernel
theorem dX7_countData_54 : decode cX7_countData 54 = .ok (.getfield 43, 3) := by decide +kernel
theorem dX7_countData_57 : decode cX7_countData 57 = .ok (.ifCond .ne 31, 3) := by decide +kernel
theorem dX7_countData_60 : decode cX7_countData 60 = .ok (.aload_n 0, 1) := by decide +kernel
theorem dX7_countData_61 : decode cX7_countData 61 = .ok (.getfield 53, 3) := by decide +kernel
theorem dX7_countData_64 : decode cX7_countData 64 = .ok (.iconst 3, 1) := by decide +kernel
theorem dX7_countData_65 : decode cX7_countData 65 = .ok (.if_icmp .ge 23, 3) := by decide +kernel
theorem dX7_countData_68 : decode cX7_countData 68 = .ok (.iload_n 1, 1) := by decide +kernel
theorem dX7_countData_69 : decode cX7_countData 69 = .ok (.ifCond .ne 19, 3) := by decide +kernel
theorem dX7_countData_72 : decode cX7_countData 72 = .ok (.iload_n 2, 1) := by decide +kernel
theorem dX7_countData_73 : decode cX7_countData 73 = .ok (.ifCond .ne 15, 3) := by decide +kernel
theorem dX7_countData_76 : decode cX7_countData 76 = .ok (.aload_n 0, 1) := by decide +kernel
theorem dX7_countData_77 : decode cX7_countData 77 = .ok (.dup, 1) := by decide +kernel
theorem dX7_countData_78 : decode cX7_countData 78 = .ok (.getfield 53, 3) := by decide +kernel
theorem dX7_countData_81 : decode cX7_countData 81 = .ok (.iconst 1, 1) := by decide +kernel
theorem dX7_countData_82 : decode cX7_countData 82 = .ok (.iadd, 1) := by decide +kernel
theorem dX7_countData_83 : decode cX7_countData 83 = .ok (.putfield 53, 3) := by decide +kernel
theorem dX7_countData_86 : decode cX7_countData 86 = .ok (.iconst 0, 1) := by decide +kernel
theorem dX7_countData_87 : decode cX7_countData 87 = .ok (.ireturn, 1) := by decide +kernel
theorem dX7_countData_88 : decode cX7_countData 88 = .ok (.aload_n 0, 1) := by decide +kernel
theorem dX7_countData_89 : decode cX7_countData 89 = .ok (.iconst 0, 1) := by decide +kernel
theorem dX7_countData_90 : decode cX7_countData 90 = .ok (.putfield 43, 3) := by decide +kernel
theorem dX7_countData_93 : decode cX7_countData 93 = .ok (.aload_n 0, 1) := by decide +kernel
theorem dX7_countData_94 : decode cX7_countData 94 = .ok (.iconst 0, 1) := by decide +kernel
theorem dX7_countData_95 : decode cX7_countData 95 = .ok (.putfield 53, 3) := by decide +kernel
theorem dX7_countData_98 : decode cX7_countData 98 = .ok (.aload_n 0, 1) := by decide +kernel
theorem dX7_countData_99 : decode cX7_countData 99 = .ok (.aload_n 0, 1) := by decide +kernel
theorem dX7_countData_100 : decode cX7_countData 100 = .ok (.getfield 37, 3) := by decide +kernel
theorem dX7_countData_103 : decode cX7_countData 103 = .ok (.iconst 1, 1) := by decide +kernel
theorem dX7_countData_104 : decode cX7_countData 104 = .ok (.isub, 1) := by decide +kernel
theorem dX7_countData_105 : decode cX7_countData 105 = .ok (.putfield 21, 3) := by decide +kernel
theorem dX7_countData_108 : decode cX7_countData 108 = .ok (.aload_n 0, 1) := by decide +kernel
theorem dX7_countData_109 : decode cX7_countData 109 = .ok (.bipush 10, 2) := by decide +kernel
theorem dX7_countData_111 : decode cX7_countData 111 = .ok (.putfield 50, 3) := by decide +kernel
theorem dX7_countData_114 : decode cX7_countData 114 = .ok (.iconst 1, 1) := by decide +kernel
theorem dX7_countData_115 : decode cX7_countData 115 = .ok (.ireturn, 1) := by decide +kernel
theorem dX7_meant_0 : decode cX7_meant 0 = .ok (.aload_n 0, 1) := by decide +kernel
theorem dX7_meant_1 : decode cX7_meant 1 = .ok (.getfield 34, 3) := by decide +kernel
theorem dX7_meant_4 : decode cX7_meant 4 = .ok (.iload_n 1, 1) := by decide +kernel
theorem dX7_meant_5 : decode cX7_meant 5 = .ok (.aload_n 0, 1) := by decide +kernel
theorem dX7_meant_6 : decode cX7_meant 6 = .ok (.getfield 34, 3) := by decide +kernel
theorem dX7_meant_9 : decode cX7_meant 9 = .ok (.isub, 1) := by decide +kernel
theorem dX7_meant_10 : decode cX7_meant 10 = .ok (.bipush 63, 2) := by decide +kernel
theorem dX7_meant_12 : decode cX7_meant 12 = .ok (.iand, 1) := by decide +kernel
theorem dX7_meant_13 : decode cX7_meant 13 = .ok (.iadd, 1) := by decide +kernel
theorem dX7_meant_14 : decode cX7_meant 14 = .ok (.ireturn, 1) := by decide +kernel
set_option maxRecDepth 20000 in
theorem ggX7_takeStatus_X0_at : GoodIn wsX7_takeStatus wsX0_at := goodIn_r _ [10, 11, 12, 95, 96] (by decide +kernel) (by decide +kernel)
set_option maxRecDepth 20000 in
theorem gX7_takeStatus_X0_at : GoodIn wsX7_takeStatus (wsV RX7 140 RX0 yX0_at wsX0_at) := goodIn_app (goodIn_of _ (by decide +kernel)) ggX7_takeStatus_X0_at
set_option maxRecDepth 20000 in
theorem ggX7_takeStatus_X7_meant : GoodIn wsX7_takeStatus wsX7_meant := goodIn_r _ [17, 3, 74, 75, 76, 77, 78, 79, 80, 81, 82, 83, 84, 85, 86, 87, 88] (by decide +kernel) (by decide +kernel)
set_option maxRecDepth 20000 in
theorem gX7_takeStatus_X7_meant : GoodIn wsX7_takeStatus (wsV RX7 146 RX7 yX7_meant wsX7_meant) := goodIn_app (goodIn_of _ (by decide +kernel)) ggX7_takeStatus_X7_meant
set_option maxRecDepth 20000 in
theorem ggX7_takeStatus_X7_nameEntries : GoodIn wsX7_takeStatus wsX7_nameEntries := goodIn_r _ [21, 3, 2, 22, 23, 24, 16, 25, 26, 6, 7, 8, 9, 10, 11, 12, 13, 14, 15, 17, 74, 75, 76, 77, 78, 79, 80, 81, 82, 83, 84, 85, 86, 87, 88, 89, 90, 91, 92, 93, 94, 95, 96] (by decide +kernel) (by decide +kernel)
set_option maxRecDepth 20000 in
theorem gX7_takeStatus_X7_nameEntries : GoodIn wsX7_takeStatus (wsV RX7 149 RX7 yX7_nameEntries wsX7_nameEntries) := goodIn_app (goodIn_of _ (by decide +kernel)) ggX7_takeStatus_X7_nameEntries
set_option maxRecDepth 20000 in
theorem ggX7_takeStatus_X7_pieceAt : GoodIn wsX7_takeStatus wsX7_pieceAt := goodIn_r _ [25, 26, 74, 75, 76, 77, 78, 79, 80, 81, 82, 83, 84, 85, 86, 87, 88] (by decide +kernel) (by decide +kernel)
set_option maxRecDepth 20000 in
theorem gX7_takeStatus_X7_pieceAt : GoodIn wsX7_takeStatus (wsV RX7 59 RX7 yX7_pieceAt wsX7_pieceAt) := goodIn_app (goodIn_of _ (by decide +kernel)) ggX7_takeStatus_X7_pieceAt
set_option maxRecDepth 20000 in
theorem ggX7_takeStatus_X7_confirm : GoodIn wsX7_takeStatus wsX7_confirm := goodIn_r _ [30, 31, 32, 33, 34, 35, 36, 37, 38, 39, 40, 41, 42, 43, 44, 45, 46, 47, 48, 49, 50, 51, 52, 53, 54, 55, 56, 57, 58, 59, 89, 90, 91, 92, 93, 94, 74, 75, 76, 77, 78, 79, 80, 81, 82, 83, 84, 85, 86, 87, 88, 97, 98, 99, 100, 101, 102, 103, 104, 105, 106, 107, 108, 109, 110, 111] (by decide +kernel) (by decide +kernel)
set_option maxRecDepth 20000 in
theorem gX7_takeStatus_X7_confirm : GoodIn wsX7_takeStatus (wsV RX7 159 RX7 yX7_confirm wsX7_confirm) := goodIn_app (goodIn_of _ (by decide +kernel)) ggX7_takeStatus_X7_confirm
set_option maxRecDepth 20000 in
theorem ggX7_takeStatus_X7_takeEntries : GoodIn wsX7_takeStatus wsX7_takeEntries := goodIn_r _ [63, 2, 6, 7, 8, 9, 10, 11, 12, 13, 14, 15, 16, 17, 3, 22, 23, 24, 25, 26, 64, 65, 66, 67, 68, 31, 69, 70, 71, 36, 72, 38, 73, 74, 75, 76, 77, 78, 79, 80, 81, 82, 83, 84, 85, 86, 87, 88, 89, 90, 91, 92, 93, 94, 95, 96] (by decide +kernel) (by decide +kernel)
set_option maxRecDepth 20000 in
theorem gX7_takeStatus_X7_takeEntries : GoodIn wsX7_takeStatus (wsV RX7 163 RX7 yX7_takeEntries wsX7_takeEntries) := goodIn_app (goodIn_of _ (by decide +kernel)) ggX7_takeStatus_X7_takeEntries
theorem dX7_takeStatus_0 : decode cX7_takeStatus 0 = .ok (.aload_n 0, 1) := by decide +kernel
theorem dX7_takeStatus_1 : decode cX7_takeStatus 1 = .ok (.dup, 1) := by decide +kernel
theorem dX7_takeStatus_2 : decode cX7_takeStatus 2 = .ok (.getfield 137, 3) := by decide +kernel
theorem dX7_takeStatus_5 : decode cX7_takeStatus 5 = .ok (.iconst 1, 1) := by decide +kernel
theorem dX7_takeStatus_6 : decode cX7_takeStatus 6 = .ok (.iadd, 1) := by decide +kernel
theorem dX7_takeStatus_7 : decode cX7_takeStatus 7 = .ok (.putfield 137, 3) := by decide +kernel
theorem dX7_takeStatus_10 : decode cX7_takeStatus 10 = .ok (.aload_n 0, 1) := by decide +kernel
theorem dX7_takeStatus_11 : decode cX7_takeStatus 11 = .ok (.aload_n 1, 1) := by decide +kernel
theorem dX7_takeStatus_12 : decode cX7_takeStatus 12 = .ok (.iload_n 2, 1) := by decide +kernel
theorem dX7_takeStatus_13 : decode cX7_takeStatus 13 = .ok (.iconst 1, 1) := by decide +kernel
theorem dX7_takeStatus_14 : decode cX7_takeStatus 14 = .ok (.iadd, 1) := by decide +kernel
theorem dX7_takeStatus_15 : decode cX7_takeStatus 15 = .ok (.invokevirtual 140, 3) := by decide +kernel
theorem dX7_takeStatus_18 : decode cX7_takeStatus 18 = .ok (.invokevirtual 146, 3) := by decide +kernel
theorem dX7_takeStatus_21 : decode cX7_takeStatus 21 = .ok (.istore_n 3, 1) := by decide +kernel
theorem dX7_takeStatus_22 : decode cX7_takeStatus 22 = .ok (.iload_n 3, 1) := by decide +kernel
theorem dX7_takeStatus_23 : decode cX7_takeStatus 23 = .ok (.aload_n 0, 1) := by decide +kernel
theorem dX7_takeStatus_24 : decode cX7_takeStatus 24 = .ok (.getfield 37, 3) := by decide +kernel
theorem dX7_takeStatus_27 : decode cX7_takeStatus 27 = .ok (.if_icmp .le 4, 3) := by decide +kernel
theorem dX7_takeStatus_30 : decode cX7_takeStatus 30 = .ok (.return_, 1) := by decide +kernel
theorem dX7_takeStatus_31 : decode cX7_takeStatus 31 = .ok (.aload_n 0, 1) := by decide +kernel
theorem dX7_takeStatus_32 : decode cX7_takeStatus 32 = .ok (.aload_n 1, 1) := by decide +kernel
theorem dX7_takeStatus_33 : decode cX7_takeStatus 33 = .ok (.iload_n 2, 1) := by decide +kernel
theorem dX7_takeStatus_34 : decode cX7_takeStatus 34 = .ok (.invokevirtual 149, 3) := by decide +kernel
theorem dX7_takeStatus_37 : decode cX7_takeStatus 37 = .ok (.aload_n 0, 1) := by decide +kernel
theorem dX7_takeStatus_38 : decode cX7_takeStatus 38 = .ok (.getfield 34, 3) := by decide +kernel
theorem dX7_takeStatus_41 : decode cX7_takeStatus 41 = .ok (.istore 4, 2) := by decide +kernel
theorem dX7_takeStatus_43 : decode cX7_takeStatus 43 = .ok (.iload 4, 2) := by decide +kernel
theorem dX7_takeStatus_45 : decode cX7_takeStatus 45 = .ok (.iload_n 3, 1) := by decide +kernel
theorem dX7_takeStatus_46 : decode cX7_takeStatus 46 = .ok (.if_icmp .ge 39, 3) := by decide +kernel
theorem dX7_takeStatus_49 : decode cX7_takeStatus 49 = .ok (.aload_n 0, 1) := by decide +kernel
theorem dX7_takeStatus_50 : decode cX7_takeStatus 50 = .ok (.iload 4, 2) := by decide +kernel
theorem dX7_takeStatus_52 : decode cX7_takeStatus 52 = .ok (.invokevirtual 59, 3) := by decide +kernel
theorem dX7_takeStatus_55 : decode cX7_takeStatus 55 = .ok (.astore 5, 2) := by decide +kernel
theorem dX7_takeStatus_57 : decode cX7_takeStatus 57 = .ok (.aload 5, 2) := by decide +kernel
theorem dX7_takeStatus_59 : decode cX7_takeStatus 59 = .ok (.getfield 153, 3) := by decide +kernel
theorem dX7_takeStatus_62 : decode cX7_takeStatus 62 = .ok (.ifCond .ne 17, 3) := by decide +kernel
theorem dX7_takeStatus_65 : decode cX7_takeStatus 65 = .ok (.aload 5, 2) := by decide +kernel
theorem dX7_takeStatus_67 : decode cX7_takeStatus 67 = .ok (.getfield 156, 3) := by decide +kernel
theorem dX7_takeStatus_70 : decode cX7_takeStatus 70 = .ok (.ifCond .ne 9, 3) := by decide +kernel
theorem dX7_takeStatus_73 : decode cX7_takeStatus 73 = .ok (.aload_n 0, 1) := by decide +kernel
theorem dX7_takeStatus_74 : decode cX7_takeStatus 74 = .ok (.aload 5, 2) := by decide +kernel
theorem dX7_takeStatus_76 : decode cX7_takeStatus 76 = .ok (.invokevirtual 159, 3) := by decide +kernel
theorem dX7_takeStatus_79 : decode cX7_takeStatus 79 = .ok (.iinc 4 1, 3) := by decide +kernel
theorem dX7_takeStatus_82 : decode cX7_takeStatus 82 = .ok (.goto (-39), 3) := by decide +kernel
theorem dX7_takeStatus_85 : decode cX7_takeStatus 85 = .ok (.aload_n 0, 1) := by decide +kernel
theorem dX7_takeStatus_86 : decode cX7_takeStatus 86 = .ok (.aload_n 1, 1) := by decide +kernel
theorem dX7_takeStatus_87 : decode cX7_takeStatus 87 = .ok (.iload_n 2, 1) := by decide +kernel
theorem dX7_takeStatus_88 : decode cX7_takeStatus 88 = .ok (.invokevirtual 163, 3) := by decide +kernel
theorem dX7_takeStatus_91 : decode cX7_takeStatus 91 = .ok (.iconst 0, 1) := by decide +kernel
theorem dX7_takeStatus_92 : decode cX7_takeStatus 92 = .ok (.istore 4, 2) := by decide +kernel
theorem dX7_takeStatus_94 : decode cX7_takeStatus 94 = .ok (.iload 4, 2) := by decide +kernel
theorem dX7_takeStatus_96 : decode cX7_takeStatus 96 = .ok (.bipush 16, 2) := by decide +kernel
theorem dX7_takeStatus_98 : decode cX7_takeStatus 98 = .ok (.if_icmp .ge 44, 3) := by decide +kernel
theorem dX7_takeStatus_101 : decode cX7_takeStatus 101 = .ok (.aload_n 0, 1) := by decide +kernel
theorem dX7_takeStatus_102 : decode cX7_takeStatus 102 = .ok (.getfield 34, 3) := by decide +kernel
theorem dX7_takeStatus_105 : decode cX7_takeStatus 105 = .ok (.aload_n 0, 1) := by decide +kernel
theorem dX7_takeStatus_106 : decode cX7_takeStatus 106 = .ok (.getfield 37, 3) := by decide +kernel
theorem dX7_takeStatus_109 : decode cX7_takeStatus 109 = .ok (.if_icmp .ge 33, 3) := by decide +kernel
theorem dX7_takeStatus_112 : decode cX7_takeStatus 112 = .ok (.aload_n 0, 1) := by decide +kernel
theorem dX7_takeStatus_113 : decode cX7_takeStatus 113 = .ok (.aload_n 0, 1) := by decide +kernel
theorem dX7_takeStatus_114 : decode cX7_takeStatus 114 = .ok (.getfield 34, 3) := by decide +kernel
theorem dX7_takeStatus_117 : decode cX7_takeStatus 117 = .ok (.invokevirtual 59, 3) := by decide +kernel
theorem dX7_takeStatus_120 : decode cX7_takeStatus 120 = .ok (.getfield 156, 3) := by decide +kernel
theorem dX7_takeStatus_123 : decode cX7_takeStatus 123 = .ok (.ifCond .eq 19, 3) := by decide +kernel
theorem dX7_takeStatus_126 : decode cX7_takeStatus 126 = .ok (.aload_n 0, 1) := by decide +kernel
theorem dX7_takeStatus_127 : decode cX7_takeStatus 127 = .ok (.dup, 1) := by decide +kernel
theorem dX7_takeStatus_128 : decode cX7_takeStatus 128 = .ok (.getfield 34, 3) := by decide +kernel
theorem dX7_takeStatus_131 : decode cX7_takeStatus 131 = .ok (.iconst 1, 1) := by decide +kernel
theorem dX7_takeStatus_132 : decode cX7_takeStatus 132 = .ok (.iadd, 1) := by decide +kernel
theorem dX7_takeStatus_133 : decode cX7_takeStatus 133 = .ok (.putfield 34, 3) := by decide +kernel
theorem dX7_takeStatus_136 : decode cX7_takeStatus 136 = .ok (.iinc 4 1, 3) := by decide +kernel
theorem dX7_takeStatus_139 : decode cX7_takeStatus 139 = .ok (.goto (-45), 3) := by decide +kernel
theorem dX7_takeStatus_142 : decode cX7_takeStatus 142 = .ok (.aload_n 0, 1) := by decide +kernel
theorem dX7_takeStatus_143 : decode cX7_takeStatus 143 = .ok (.getfield 21, 3) := by decide +kernel
theorem dX7_takeStatus_146 : decode cX7_takeStatus 146 = .ok (.iload_n 3, 1) := by decide +kernel
theorem dX7_takeStatus_147 : decode cX7_takeStatus 147 = .ok (.if_icmp .ge 8, 3) := by decide +kernel
theorem dX7_takeStatus_150 : decode cX7_takeStatus 150 = .ok (.aload_n 0, 1) := by decide +kernel
theorem dX7_takeStatus_151 : decode cX7_takeStatus 151 = .ok (.iconst 0, 1) := by decide +kernel
theorem dX7_takeStatus_152 : decode cX7_takeStatus 152 = .ok (.putfield 50, 3) := by decide +kernel
theorem dX7_takeStatus_155 : decode cX7_takeStatus 155 = .ok (.return_, 1) := by decide +kernel
set_option maxRecDepth 20000 in
theorem ggX7_nameEntries_X7_pieceAt : GoodIn wsX7_nameEntries wsX7_pieceAt := goodIn_r _ [7, 8, 20, 21, 22, 23, 24, 25, 26, 27, 28, 29, 30, 31, 32, 33, 34] (by decide +kernel) (by decide +kernel)
set_option maxRecDepth 20000 in
theorem gX7_nameEntries_X7_pieceAt : GoodIn wsX7_nameEntries (wsV RX7 59 RX7 yX7_pieceAt wsX7_pieceAt) := goodIn_app (goodIn_of _ (by decide +kernel)) ggX7_nameEntries_X7_pieceAt
set_option maxRecDepth 20000 in
theorem ggX7_nameEntries_X0_at : GoodIn wsX7_nameEntries wsX0_at := goodIn_r _ [13, 14, 15, 41, 42] (by decide +kernel) (by decide +kernel)
set_option maxRecDepth 20000 in
theorem gX7_nameEntries_X0_at : GoodIn wsX7_nameEntries (wsV RX7 140 RX0 yX0_at wsX0_at) := goodIn_app (goodIn_of _ (by decide +kernel)) ggX7_nameEntries_X0_at
set_option maxRecDepth 20000 in
theorem ggX7_nameEntries_X7_meant : GoodIn wsX7_nameEntries wsX7_meant := goodIn_r _ [19, 1, 20, 21, 22, 23, 24, 25, 26, 27, 28, 29, 30, 31, 32, 33, 34] (by decide +kernel) (by decide +kernel)
set_option maxRecDepth 20000 in
theorem gX7_nameEntries_X7_meant : GoodIn wsX7_nameEntries (wsV RX7 146 RX7 yX7_meant wsX7_meant) := goodIn_app (goodIn_of _ (by decide +kernel)) ggX7_nameEntries_X7_meant
theorem dX7_nameEntries_0 : decode cX7_nameEntries 0 = .ok (.aload_n 0, 1) := by decide +kernel
theorem dX7_nameEntries_1 : decode cX7_nameEntries 1 = .ok (.getfield 34, 3) := by decide +kernel
theorem dX7_nameEntries_4 : decode cX7_nameEntries 4 = .ok (.istore_n 3, 1) := by decide +kernel
theorem dX7_nameEntries_5 : decode cX7_nameEntries 5 = .ok (.iload_n 3, 1) := by decide +kernel
theorem dX7_nameEntries_6 : decode cX7_nameEntries 6 = .ok (.aload_n 0, 1) := by decide +kernel
theorem dX7_nameEntries_7 : decode cX7_nameEntries 7 = .ok (.getfield 37, 3) := by decide +kernel
theorem dX7_nameEntries_10 : decode cX7_nameEntries 10 = .ok (.if_icmp .ge 18, 3) := by decide +kernel
theorem dX7_nameEntries_13 : decode cX7_nameEntries 13 = .ok (.aload_n 0, 1) := by decide +kernel
theorem dX7_nameEntries_14 : decode cX7_nameEntries 14 = .ok (.iload_n 3, 1) := by decide +kernel
theorem dX7_nameEntries_15 : decode cX7_nameEntries 15 = .ok (.invokevirtual 59, 3) := by decide +kernel
theorem dX7_nameEntries_18 : decode cX7_nameEntries 18 = .ok (.iconst 0, 1) := by decide +kernel
theorem dX7_nameEntries_19 : decode cX7_nameEntries 19 = .ok (.putfield 153, 3) := by decide +kernel
theorem dX7_nameEntries_22 : decode cX7_nameEntries 22 = .ok (.iinc 3 1, 3) := by decide +kernel
theorem dX7_nameEntries_25 : decode cX7_nameEntries 25 = .ok (.goto (-20), 3) := by decide +kernel
theorem dX7_nameEntries_28 : decode cX7_nameEntries 28 = .ok (.iload_n 2, 1) := by decide +kernel
theorem dX7_nameEntries_29 : decode cX7_nameEntries 29 = .ok (.iconst 2, 1) := by decide +kernel
theorem dX7_nameEntries_30 : decode cX7_nameEntries 30 = .ok (.iadd, 1) := by decide +kernel
theorem dX7_nameEntries_31 : decode cX7_nameEntries 31 = .ok (.istore_n 3, 1) := by decide +kernel
theorem dX7_nameEntries_32 : decode cX7_nameEntries 32 = .ok (.iconst 0, 1) := by decide +kernel
theorem dX7_nameEntries_33 : decode cX7_nameEntries 33 = .ok (.istore 4, 2) := by decide +kernel
theorem dX7_nameEntries_35 : decode cX7_nameEntries 35 = .ok (.iload 4, 2) := by decide +kernel
theorem dX7_nameEntries_37 : decode cX7_nameEntries 37 = .ok (.aload_n 1, 1) := by decide +kernel
theorem dX7_nameEntries_38 : decode cX7_nameEntries 38 = .ok (.iload_n 2, 1) := by decide +kernel
theorem dX7_nameEntries_39 : decode cX7_nameEntries 39 = .ok (.invokevirtual 140, 3) := by decide +kernel
theorem dX7_nameEntries_42 : decode cX7_nameEntries 42 = .ok (.if_icmp .ge 58, 3) := by decide +kernel
theorem dX7_nameEntries_45 : decode cX7_nameEntries 45 = .ok (.aload_n 0, 1) := by decide +kernel
theorem dX7_nameEntries_46 : decode cX7_nameEntries 46 = .ok (.aload_n 1, 1) := by decide +kernel
theorem dX7_nameEntries_47 : decode cX7_nameEntries 47 = .ok (.iload_n 3, 1) := by decide +kernel
theorem dX7_nameEntries_48 : decode cX7_nameEntries 48 = .ok (.invokevirtual 140, 3) := by decide +kernel
theorem dX7_nameEntries_51 : decode cX7_nameEntries 51 = .ok (.invokevirtual 146, 3) := by decide +kernel
theorem dX7_nameEntries_54 : decode cX7_nameEntries 54 = .ok (.istore 5, 2) := by decide +kernel
theorem dX7_nameEntries_56 : decode cX7_nameEntries 56 = .ok (.iload 5, 2) := by decide +kernel
theorem dX7_nameEntries_58 : decode cX7_nameEntries 58 = .ok (.aload_n 0, 1) := by decide +kernel
theorem dX7_nameEntries_59 : decode cX7_nameEntries 59 = .ok (.getfield 37, 3) := by decide +kernel
theorem dX7_nameEntries_62 : decode cX7_nameEntries 62 = .ok (.if_icmp .ge 13, 3) := by decide +kernel
theorem dX7_nameEntries_65 : decode cX7_nameEntries 65 = .ok (.aload_n 0, 1) := by decide +kernel
theorem dX7_nameEntries_66 : decode cX7_nameEntries 66 = .ok (.iload 5, 2) := by decide +kernel
theorem dX7_nameEntries_68 : decode cX7_nameEntries 68 = .ok (.invokevirtual 59, 3) := by decide +kernel
theorem dX7_nameEntries_71 : decode cX7_nameEntries 71 = .ok (.iconst 1, 1) := by decide +kernel
theorem dX7_nameEntries_72 : decode cX7_nameEntries 72 = .ok (.putfield 153, 3) := by decide +kernel
theorem dX7_nameEntries_75 : decode cX7_nameEntries 75 = .ok (.iload_n 3, 1) := by decide +kernel
theorem dX7_nameEntries_76 : decode cX7_nameEntries 76 = .ok (.aload_n 1, 1) := by decide +kernel
theorem dX7_nameEntries_77 : decode cX7_nameEntries 77 = .ok (.iload_n 3, 1) := by decide +kernel
theorem dX7_nameEntries_78 : decode cX7_nameEntries 78 = .ok (.invokevirtual 140, 3) := by decide +kernel
theorem dX7_nameEntries_81 : decode cX7_nameEntries 81 = .ok (.sipush 128, 3) := by decide +kernel
theorem dX7_nameEntries_84 : decode cX7_nameEntries 84 = .ok (.if_icmp .ge 7, 3) := by decide +kernel
theorem dX7_nameEntries_87 : decode cX7_nameEntries 87 = .ok (.iconst 1, 1) := by decide +kernel
theorem dX7_nameEntries_88 : decode cX7_nameEntries 88 = .ok (.goto 4, 3) := by decide +kernel
theorem dX7_nameEntries_91 : decode cX7_nameEntries 91 = .ok (.iconst 3, 1) := by decide +kernel
theorem dX7_nameEntries_92 : decode cX7_nameEntries 92 = .ok (.iadd, 1) := by decide +kernel
theorem dX7_nameEntries_93 : decode cX7_nameEntries 93 = .ok (.istore_n 3, 1) := by decide +kernel
theorem dX7_nameEntries_94 : decode cX7_nameEntries 94 = .ok (.iinc 4 1, 3) := by decide +kernel
theorem dX7_nameEntries_97 : decode cX7_nameEntries 97 = .ok (.goto (-62), 3) := by decide +kernel
theorem dX7_nameEntries_100 : decode cX7_nameEntries 100 = .ok (.return_, 1) := by decide +kernel
set_option maxRecDepth 20000 in
theorem ggX7_takeEntries_X0_at : GoodIn wsX7_takeEntries wsX0_at := goodIn_r _ [6, 7, 8, 54, 55] (by decide +kernel) (by decide +kernel)
set_option maxRecDepth 20000 in
theorem gX7_takeEntries_X0_at : GoodIn wsX7_takeEntries (wsV RX7 140 RX0 yX0_at wsX0_at) := goodIn_app (goodIn_of _ (by decide +kernel)) ggX7_takeEntries_X0_at
set_option maxRecDepth 20000 in
theorem ggX7_takeEntries_X7_meant : GoodIn wsX7_takeEntries wsX7_meant := goodIn_r _ [13, 14, 33, 34, 35, 36, 37, 38, 39, 40, 41, 42, 43, 44, 45, 46, 47] (by decide +kernel) (by decide +kernel)
set_option maxRecDepth 20000 in
theorem gX7_takeEntries_X7_meant : GoodIn wsX7_takeEntries (wsV RX7 146 RX7 yX7_meant wsX7_meant) := goodIn_app (goodIn_of _ (by decide +kernel)) ggX7_takeEntries_X7_meant
set_option maxRecDepth 20000 in
theorem ggX7_takeEntries_X7_pieceAt : GoodIn wsX7_takeEntries wsX7_pieceAt := goodIn_r _ [18, 19, 33, 34, 35, 36, 37, 38, 39, 40, 41, 42, 43, 44, 45, 46, 47] (by decide +kernel) (by decide +kernel)
set_option maxRecDepth 20000 in
theorem gX7_takeEntries_X7_pieceAt : GoodIn wsX7_takeEntries (wsV RX7 59 RX7 yX7_pieceAt wsX7_pieceAt) := goodIn_app (goodIn_of _ (by decide +kernel)) ggX7_takeEntries_X7_pieceAt
set_option maxRecDepth 20000 in
theorem ggX7_takeEntries_X7_bringAgain : GoodIn wsX7_takeEntries wsX7_bringAgain := goodIn_r _ [23, 24, 25, 26, 27, 28, 29, 30, 31, 32, 48, 49, 50, 51, 52, 53, 33, 34, 35, 36, 37, 38, 39, 40, 41, 42, 43, 44, 45, 46, 47] (by decide +kernel) (by decide +kernel)
set_option maxRecDepth 20000 in
theorem gX7_takeEntries_X7_bringAgain : GoodIn wsX7_takeEntries (wsV RX7 63 RX7 yX7_bringAgain wsX7_bringAgain) := goodIn_app (goodIn_of _ (by decide +kernel)) ggX7_takeEntries_X7_bringAgain
theorem dX7_takeEntries_0 : decode cX7_takeEntries 0 = .ok (.iload_n 2, 1) := by decide +kernel
theorem dX7_takeEntries_1 : decode cX7_takeEntries 1 = .ok (.iconst 2, 1) := by decide +kernel
theorem dX7_takeEntries_2 : decode cX7_takeEntries 2 = .ok (.iadd, 1) := by decide +kernel
theorem dX7_takeEntries_3 : decode cX7_takeEntries 3 = .ok (.istore_n 3, 1) := by decide +kernel
theorem dX7_takeEntries_4 : decode cX7_takeEntries 4 = .ok (.iconst 0, 1) := by decide +kernel
theorem dX7_takeEntries_5 : decode cX7_takeEntries 5 = .ok (.istore 4, 2) := by decide +kernel
theorem dX7_takeEntries_7 : decode cX7_takeEntries 7 = .ok (.iload 4, 2) := by decide +kernel
theorem dX7_takeEntries_9 : decode cX7_takeEntries 9 = .ok (.aload_n 1, 1) := by decide +kernel
theorem dX7_takeEntries_10 : decode cX7_takeEntries 10 = .ok (.iload_n 2, 1) := by decide +kernel
theorem dX7_takeEntries_11 : decode cX7_takeEntries 11 = .ok (.invokevirtual 140, 3) := by decide +kernel
theorem dX7_takeEntries_14 : decode cX7_takeEntries 14 = .ok (.if_icmp .ge 126, 3) := by decide +kernel
theorem dX7_takeEntries_17 : decode cX7_takeEntries 17 = .ok (.aload_n 0, 1) := by decide +kernel
theorem dX7_takeEntries_18 : decode cX7_takeEntries 18 = .ok (.aload_n 1, 1) := by decide +kernel
theorem dX7_takeEntries_19 : decode cX7_takeEntries 19 = .ok (.iload_n 3, 1) := by decide +kernel
theorem dX7_takeEntries_20 : decode cX7_takeEntries 20 = .ok (.invokevirtual 140, 3) := by decide +kernel
theorem dX7_takeEntries_23 : decode cX7_takeEntries 23 = .ok (.invokevirtual 146, 3) := by decide +kernel
theorem dX7_takeEntries_26 : decode cX7_takeEntries 26 = .ok (.istore 5, 2) := by decide +kernel
theorem dX7_takeEntries_28 : decode cX7_takeEntries 28 = .ok (.aload_n 1, 1) := by decide +kernel
theorem dX7_takeEntries_29 : decode cX7_takeEntries 29 = .ok (.iload_n 3, 1) := by decide +kernel
theorem dX7_takeEntries_30 : decode cX7_takeEntries 30 = .ok (.invokevirtual 140, 3) := by decide +kernel
theorem dX7_takeEntries_33 : decode cX7_takeEntries 33 = .ok (.sipush 128, 3) := by decide +kernel
theorem dX7_takeEntries_36 : decode cX7_takeEntries 36 = .ok (.if_icmp .ge 7, 3) := by decide +kernel
