set_option maxRecDepth 20000 in
theorem ggX8_workOn_X8_takeData : GoodIn wsX8_workOn wsX8_takeData := goodIn_r _ [19, 20, 21, 22, 23, 24, 25, 26, 27, 28, 29, 30, 31, 32, 33, 34, 35, 36, 37, 38, 5, 6, 7, 8, 9, 10, 39, 40, 41, 42, 43, 44, 45, 46, 47, 48, 49, 50, 51, 52, 53, 54, 55, 56, 57, 58, 59, 60, 61, 62, 63, 64, 65, 66, 67, 68, 69, 70, 71, 14, 72, 73, 74, 75, 76, 77, 78, 79, 80, 81, 82, 83, 84, 85, 86, 87, 88, 3, 89, 90, 91, 92, 93, 94, 95, 96, 97, 98, 99, 100, 101, 102, 103, 104, 105, 106, 107, 108, 109, 110, 111, 112, 113, 114, 115, 116, 117, 118, 119, 120, 121, 122, 123, 124, 125, 126, 127, 128, 129, 130, 131, 132, 133, 134, 135, 136, 137, 138, 139, 140, 141, 142, 143, 144, 145, 146, 147, 148, 149, 150, 151, 152, 153, 154, 155, 156, 157, 158, 159, 160, 161, 162, 163, 164, 165, 166, 167, 168, 169, 170, 171, 4, 172, 173, 174, 175, 176, 177, 178, 179, 180, 181, 182, 234, 235, 236, 237, 238, 239, 240, 241, 242, 243, 244, 245, 246, 247, 248, 249, 250, 251, 252, 253, 254, 255, 256, 257, 258, 259, 260, 261, 262, 263, 264, 265, 266, 267, 268, 232, 233, 269, 270, 271, 272, 273, 274, 275, 276, 277, 278, 279, 280, 281, 282, 283, 284, 285, 286, 287, 288, 289, 290, 291, 292, 293, 294, 295, 296, 297, 298, 299, 300, 301, 302, 303, 304, 305, 306, 307, 308, 309, 310, 311, 312, 313, 314] (by decide +kernel) (by decide +kernel)
set_option maxRecDepth 20000 in
theorem gX8_workOn_X8_takeData : GoodIn wsX8_workOn (wsV RX8 286 RX8 yX8_takeData wsX8_takeData) := goodIn_app (goodIn_of _ (by decide +kernel)) ggX8_workOn_X8_takeData
set_option maxRecDepth 20000 in
theorem ggX8_workOn_X7_takeStatus : GoodIn wsX8_workOn wsX7_takeStatus := goodIn_r _ [187, 188, 189, 190, 191, 192, 193, 5, 6, 7, 8, 9, 10, 194, 195, 196, 186, 197, 198, 199, 200, 201, 202, 203, 204, 205, 206, 207, 208, 209, 210, 211, 212, 213, 74, 75, 54, 76, 56, 214, 215, 216, 93, 217, 218, 97, 98, 99, 100, 96, 95, 101, 102, 103, 104, 105, 106, 107, 108, 109, 219, 220, 221, 222, 223, 224, 225, 226, 227, 228, 229, 230, 231, 57, 282, 283, 284, 285, 286, 287, 288, 289, 290, 291, 292, 293, 294, 295, 296, 263, 264, 265, 266, 267, 268, 232, 233, 297, 298, 299, 300, 301, 302, 303, 304, 305, 306, 307, 308, 309, 310, 311] (by decide +kernel) (by decide +kernel)
set_option maxRecDepth 20000 in
theorem gX8_workOn_X7_takeStatus : GoodIn wsX8_workOn (wsV RX8 290 RX7 yX7_takeStatus wsX7_takeStatus) := goodIn_app (goodIn_of _ (by decide +kernel)) ggX8_workOn_X7_takeStatus
theorem dX8_workOn_0 : decode cX8_workOn 0 = .ok (.iconst 0, 1) := by decide +kernel
theorem dX8_workOn_1 : decode cX8_workOn 1 = .ok (.istore_n 3, 1) := by decide +kernel
theorem dX8_workOn_2 : decode cX8_workOn 2 = .ok (.iconst 0, 1) := by decide +kernel
theorem dX8_workOn_3 : decode cX8_workOn 3 = .ok (.istore 4, 2) := by decide +kernel
theorem dX8_workOn_5 : decode cX8_workOn 5 = .ok (.iload 4, 2) := by decide +kernel
theorem dX8_workOn_7 : decode cX8_workOn 7 = .ok (.sipush 250, 3) := by decide +kernel
theorem dX8_workOn_10 : decode cX8_workOn 10 = .ok (.if_icmp .ge 115, 3) := by decide +kernel
theorem dX8_workOn_13 : decode cX8_workOn 13 = .ok (.iload_n 3, 1) := by decide +kernel
theorem dX8_workOn_14 : decode cX8_workOn 14 = .ok (.iconst 2, 1) := by decide +kernel
theorem dX8_workOn_15 : decode cX8_workOn 15 = .ok (.iadd, 1) := by decide +kernel
theorem dX8_workOn_16 : decode cX8_workOn 16 = .ok (.aload_n 2, 1) := by decide +kernel
theorem dX8_workOn_17 : decode cX8_workOn 17 = .ok (.getfield 256, 3) := by decide +kernel
theorem dX8_workOn_20 : decode cX8_workOn 20 = .ok (.if_icmp .ge 105, 3) := by decide +kernel
theorem dX8_workOn_23 : decode cX8_workOn 23 = .ok (.aload_n 2, 1) := by decide +kernel
theorem dX8_workOn_24 : decode cX8_workOn 24 = .ok (.iload_n 3, 1) := by decide +kernel
theorem dX8_workOn_25 : decode cX8_workOn 25 = .ok (.invokevirtual 141, 3) := by decide +kernel
theorem dX8_workOn_28 : decode cX8_workOn 28 = .ok (.aload_n 0, 1) := by decide +kernel
theorem dX8_workOn_29 : decode cX8_workOn 29 = .ok (.getfield 16, 3) := by decide +kernel
theorem dX8_workOn_32 : decode cX8_workOn 32 = .ok (.if_icmp .ge 93, 3) := by decide +kernel
theorem dX8_workOn_35 : decode cX8_workOn 35 = .ok (.aload_n 0, 1) := by decide +kernel
theorem dX8_workOn_36 : decode cX8_workOn 36 = .ok (.iload_n 1, 1) := by decide +kernel
theorem dX8_workOn_37 : decode cX8_workOn 37 = .ok (.aload_n 2, 1) := by decide +kernel
theorem dX8_workOn_38 : decode cX8_workOn 38 = .ok (.iload_n 3, 1) := by decide +kernel
theorem dX8_workOn_39 : decode cX8_workOn 39 = .ok (.invokevirtual 141, 3) := by decide +kernel
theorem dX8_workOn_42 : decode cX8_workOn 42 = .ok (.invokevirtual 67, 3) := by decide +kernel
theorem dX8_workOn_45 : decode cX8_workOn 45 = .ok (.istore 5, 2) := by decide +kernel
theorem dX8_workOn_47 : decode cX8_workOn 47 = .ok (.aload_n 2, 1) := by decide +kernel
theorem dX8_workOn_48 : decode cX8_workOn 48 = .ok (.iload_n 3, 1) := by decide +kernel
theorem dX8_workOn_49 : decode cX8_workOn 49 = .ok (.iconst 1, 1) := by decide +kernel
theorem dX8_workOn_50 : decode cX8_workOn 50 = .ok (.iadd, 1) := by decide +kernel
theorem dX8_workOn_51 : decode cX8_workOn 51 = .ok (.invokevirtual 141, 3) := by decide +kernel
theorem dX8_workOn_54 : decode cX8_workOn 54 = .ok (.istore 6, 2) := by decide +kernel
theorem dX8_workOn_56 : decode cX8_workOn 56 = .ok (.aload_n 0, 1) := by decide +kernel
theorem dX8_workOn_57 : decode cX8_workOn 57 = .ok (.dup, 1) := by decide +kernel
theorem dX8_workOn_58 : decode cX8_workOn 58 = .ok (.getfield 253, 3) := by decide +kernel
theorem dX8_workOn_61 : decode cX8_workOn 61 = .ok (.iconst 1, 1) := by decide +kernel
theorem dX8_workOn_62 : decode cX8_workOn 62 = .ok (.iadd, 1) := by decide +kernel
theorem dX8_workOn_63 : decode cX8_workOn 63 = .ok (.putfield 253, 3) := by decide +kernel
theorem dX8_workOn_66 : decode cX8_workOn 66 = .ok (.aload_n 2, 1) := by decide +kernel
theorem dX8_workOn_67 : decode cX8_workOn 67 = .ok (.iload_n 3, 1) := by decide +kernel
theorem dX8_workOn_68 : decode cX8_workOn 68 = .ok (.iconst 2, 1) := by decide +kernel
theorem dX8_workOn_69 : decode cX8_workOn 69 = .ok (.iadd, 1) := by decide +kernel
theorem dX8_workOn_70 : decode cX8_workOn 70 = .ok (.invokevirtual 141, 3) := by decide +kernel
theorem dX8_workOn_73 : decode cX8_workOn 73 = .ok (.sipush 128, 3) := by decide +kernel
theorem dX8_workOn_76 : decode cX8_workOn 76 = .ok (.if_icmp .lt 22, 3) := by decide +kernel
theorem dX8_workOn_79 : decode cX8_workOn 79 = .ok (.aload_n 0, 1) := by decide +kernel
theorem dX8_workOn_80 : decode cX8_workOn 80 = .ok (.iload 5, 2) := by decide +kernel
theorem dX8_workOn_82 : decode cX8_workOn 82 = .ok (.aload_n 2, 1) := by decide +kernel
theorem dX8_workOn_83 : decode cX8_workOn 83 = .ok (.iload_n 3, 1) := by decide +kernel
theorem dX8_workOn_84 : decode cX8_workOn 84 = .ok (.iconst 2, 1) := by decide +kernel
theorem dX8_workOn_85 : decode cX8_workOn 85 = .ok (.iadd, 1) := by decide +kernel
theorem dX8_workOn_86 : decode cX8_workOn 86 = .ok (.iload_n 3, 1) := by decide +kernel
theorem dX8_workOn_87 : decode cX8_workOn 87 = .ok (.iconst 2, 1) := by decide +kernel
theorem dX8_workOn_88 : decode cX8_workOn 88 = .ok (.iadd, 1) := by decide +kernel
theorem dX8_workOn_89 : decode cX8_workOn 89 = .ok (.iload 6, 2) := by decide +kernel
theorem dX8_workOn_91 : decode cX8_workOn 91 = .ok (.iadd, 1) := by decide +kernel
theorem dX8_workOn_92 : decode cX8_workOn 92 = .ok (.invokevirtual 286, 3) := by decide +kernel
theorem dX8_workOn_95 : decode cX8_workOn 95 = .ok (.goto 17, 3) := by decide +kernel
theorem dX8_workOn_98 : decode cX8_workOn 98 = .ok (.aload_n 0, 1) := by decide +kernel
theorem dX8_workOn_99 : decode cX8_workOn 99 = .ok (.getfield 36, 3) := by decide +kernel
theorem dX8_workOn_102 : decode cX8_workOn 102 = .ok (.iload 5, 2) := by decide +kernel
theorem dX8_workOn_104 : decode cX8_workOn 104 = .ok (.aaload, 1) := by decide +kernel
theorem dX8_workOn_105 : decode cX8_workOn 105 = .ok (.aload_n 2, 1) := by decide +kernel
theorem dX8_workOn_106 : decode cX8_workOn 106 = .ok (.iload_n 3, 1) := by decide +kernel
theorem dX8_workOn_107 : decode cX8_workOn 107 = .ok (.iconst 2, 1) := by decide +kernel
theorem dX8_workOn_108 : decode cX8_workOn 108 = .ok (.iadd, 1) := by decide +kernel
theorem dX8_workOn_109 : decode cX8_workOn 109 = .ok (.invokevirtual 290, 3) := by decide +kernel
theorem dX8_workOn_112 : decode cX8_workOn 112 = .ok (.iload_n 3, 1) := by decide +kernel
theorem dX8_workOn_113 : decode cX8_workOn 113 = .ok (.iconst 2, 1) := by decide +kernel
theorem dX8_workOn_114 : decode cX8_workOn 114 = .ok (.iload 6, 2) := by decide +kernel
theorem dX8_workOn_116 : decode cX8_workOn 116 = .ok (.iadd, 1) := by decide +kernel
theorem dX8_workOn_117 : decode cX8_workOn 117 = .ok (.iadd, 1) := by decide +kernel
theorem dX8_workOn_118 : decode cX8_workOn 118 = .ok (.istore_n 3, 1) := by decide +kernel
theorem dX8_workOn_119 : decode cX8_workOn 119 = .ok (.iinc 4 1, 3) := by decide +kernel
theorem dX8_workOn_122 : decode cX8_workOn 122 = .ok (.goto (-117), 3) := by decide +kernel
theorem dX8_workOn_125 : decode cX8_workOn 125 = .ok (.return_, 1) := by decide +kernel
set_option maxRecDepth 20000 in
theorem ggX8_takeData_X6_takeBytes : GoodIn wsX8_takeData wsX6_takeBytes := goodIn_r _ [6, 7, 8, 9, 10, 11, 12, 13, 14, 15, 16, 17, 18, 19, 20, 21, 22, 23, 24, 25, 26, 27, 28, 5, 29, 30, 31, 32, 33, 34, 35, 36, 37, 38, 39, 40, 41, 42, 43, 44, 189, 190, 191, 192, 193, 194, 195, 196, 197, 198, 199, 200, 201, 202, 203, 204, 205, 206, 207, 208, 209] (by decide +kernel) (by decide +kernel)
set_option maxRecDepth 20000 in
theorem gX8_takeData_X6_takeBytes : GoodIn wsX8_takeData (wsV RX8 293 RX6 yX6_takeBytes wsX6_takeBytes) := goodIn_app (goodIn_of _ (by decide +kernel)) ggX8_takeData_X6_takeBytes
set_option maxRecDepth 20000 in
theorem ggX8_takeData_X6_raiseTold : GoodIn wsX8_takeData wsX6_raiseTold := goodIn_r _ [48, 49, 50, 51, 52, 5, 53, 8, 15, 26, 27, 28, 29, 30, 189, 190, 191, 192, 193, 194, 195, 196, 197, 198, 199, 200, 201, 202, 203, 204, 205, 206, 207] (by decide +kernel) (by decide +kernel)
set_option maxRecDepth 20000 in
theorem gX8_takeData_X6_raiseTold : GoodIn wsX8_takeData (wsV RX8 297 RX6 yX6_raiseTold wsX6_raiseTold) := goodIn_app (goodIn_of _ (by decide +kernel)) ggX8_takeData_X6_raiseTold
set_option maxRecDepth 20000 in
theorem ggX8_takeData_X6_isWhole : GoodIn wsX8_takeData wsX6_isWhole := goodIn_r _ [53, 8, 15, 26, 27, 28, 5, 29, 30, 189, 190, 191, 192, 193, 194, 195, 196, 197, 198, 199, 200, 201, 202, 203, 204, 205, 206, 207] (by decide +kernel) (by decide +kernel)
set_option maxRecDepth 20000 in
theorem gX8_takeData_X6_isWhole : GoodIn wsX8_takeData (wsV RX8 300 RX6 yX6_isWhole wsX6_isWhole) := goodIn_app (goodIn_of _ (by decide +kernel)) ggX8_takeData_X6_isWhole
set_option maxRecDepth 20000 in
theorem ggX8_takeData_X6_pieceAt : GoodIn wsX8_takeData wsX6_pieceAt := goodIn_r _ [29, 30, 189, 190, 191, 192, 193, 194, 195, 196, 197, 198, 199, 200, 201] (by decide +kernel) (by decide +kernel)
set_option maxRecDepth 20000 in
theorem gX8_takeData_X6_pieceAt : GoodIn wsX8_takeData (wsV RX8 304 RX6 yX6_pieceAt wsX6_pieceAt) := goodIn_app (goodIn_of _ (by decide +kernel)) ggX8_takeData_X6_pieceAt
set_option maxRecDepth 20000 in
theorem ggX8_takeData_X8_hand : GoodIn wsX8_takeData wsX8_hand := goodIn_r _ [60, 1, 61, 62, 63, 41, 64, 43, 65, 66, 67, 68, 69, 70, 71, 72, 73, 74, 75, 59, 76, 77, 78, 79, 80, 81, 82, 83, 84, 85, 86, 87, 88, 89, 90, 91, 92, 93, 94, 95, 96, 97, 98, 99, 100, 101, 102, 103, 104, 105, 106, 107, 108, 109, 110, 111, 112, 113, 114, 115, 116, 117, 118, 119, 120, 121, 122, 123, 124, 125, 126, 127, 128, 129, 130, 131, 132, 133, 134, 135, 136, 137, 138, 139, 140, 141, 142, 143, 12, 13, 14, 144, 145, 146, 147, 173, 174, 175, 176, 177, 178, 179, 180, 181, 182, 183, 184, 185, 186, 187, 188, 189, 190, 191, 192, 193, 194, 195, 196, 197, 198, 199, 200, 201, 202, 203, 204, 205, 206, 207, 210, 211, 212, 213, 214, 215, 216, 217, 218, 219, 220, 221, 222, 223, 224, 225, 226, 227, 228, 229, 230, 231, 232, 233, 234, 235, 236, 237, 238, 239, 240, 241, 242, 243, 244, 245, 246, 247, 248, 249, 250, 251, 252, 253, 254, 255] (by decide +kernel) (by decide +kernel)
set_option maxRecDepth 20000 in
theorem gX8_takeData_X8_hand : GoodIn wsX8_takeData (wsV RX8 308 RX8 yX8_hand wsX8_hand) := goodIn_app (goodIn_of _ (by decide +kernel)) ggX8_takeData_X8_hand
set_option maxRecDepth 20000 in
theorem ggX8_takeData_X6_passLow : GoodIn wsX8_takeData wsX6_passLow := goodIn_r _ [151, 8, 49, 16, 17, 13, 18, 26, 27, 28, 5, 29, 30, 152, 153, 154, 41, 155, 43, 156, 44, 157, 158, 159, 160, 120, 121, 122, 189, 190, 191, 192, 193, 194, 195, 196, 197, 198, 199, 200, 201, 202, 203, 204, 205, 206, 207] (by decide +kernel) (by decide +kernel)
set_option maxRecDepth 20000 in
theorem gX8_takeData_X6_passLow : GoodIn wsX8_takeData (wsV RX8 312 RX6 yX6_passLow wsX6_passLow) := goodIn_app (goodIn_of _ (by decide +kernel)) ggX8_takeData_X6_passLow
set_option maxRecDepth 20000 in
theorem ggX8_takeData_X0_at : GoodIn wsX8_takeData wsX0_at := goodIn_r _ [23, 24, 25, 208, 209] (by decide +kernel) (by decide +kernel)
set_option maxRecDepth 20000 in
theorem gX8_takeData_X0_at : GoodIn wsX8_takeData (wsV RX8 141 RX0 yX0_at wsX0_at) := goodIn_app (goodIn_of _ (by decide +kernel)) ggX8_takeData_X0_at
set_option maxRecDepth 20000 in
theorem ggX8_takeData_X6_settle : GoodIn wsX8_takeData wsX6_settle := goodIn_r _ [165, 166, 167, 8, 15, 168, 169, 170, 171, 5, 172, 49, 10, 189, 190, 191, 192, 193, 194, 195, 196, 197, 198, 199, 200, 201] (by decide +kernel) (by decide +kernel)
set_option maxRecDepth 20000 in
theorem gX8_takeData_X6_settle : GoodIn wsX8_takeData (wsV RX8 315 RX6 yX6_settle wsX6_settle) := goodIn_app (goodIn_of _ (by decide +kernel)) ggX8_takeData_X6_settle
theorem dX8_takeData_0 : decode cX8_takeData 0 = .ok (.aload_n 0, 1) := by decide +kernel
theorem dX8_takeData_1 : decode cX8_takeData 1 = .ok (.getfield 42, 3) := by decide +kernel
theorem dX8_takeData_4 : decode cX8_takeData 4 = .ok (.iload_n 1, 1) := by decide +kernel
theorem dX8_takeData_5 : decode cX8_takeData 5 = .ok (.aaload, 1) := by decide +kernel
theorem dX8_takeData_6 : decode cX8_takeData 6 = .ok (.astore 5, 2) := by decide +kernel
theorem dX8_takeData_8 : decode cX8_takeData 8 = .ok (.aload 5, 2) := by decide +kernel
theorem dX8_takeData_10 : decode cX8_takeData 10 = .ok (.aload_n 2, 1) := by decide +kernel
theorem dX8_takeData_11 : decode cX8_takeData 11 = .ok (.iload_n 3, 1) := by decide +kernel
theorem dX8_takeData_12 : decode cX8_takeData 12 = .ok (.iload 4, 2) := by decide +kernel
theorem dX8_takeData_14 : decode cX8_takeData 14 = .ok (.invokevirtual 293, 3) := by decide +kernel
theorem dX8_takeData_17 : decode cX8_takeData 17 = .ok (.istore 6, 2) := by decide +kernel
theorem dX8_takeData_19 : decode cX8_takeData 19 = .ok (.iload 6, 2) := by decide +kernel
theorem dX8_takeData_21 : decode cX8_takeData 21 = .ok (.iconst (-1), 1) := by decide +kernel
theorem dX8_takeData_22 : decode cX8_takeData 22 = .ok (.if_icmp .ne 4, 3) := by decide +kernel
theorem dX8_takeData_25 : decode cX8_takeData 25 = .ok (.return_, 1) := by decide +kernel
theorem dX8_takeData_26 : decode cX8_takeData 26 = .ok (.aload 5, 2) := by decide +kernel
theorem dX8_takeData_28 : decode cX8_takeData 28 = .ok (.invokevirtual 297, 3) := by decide +kernel
theorem dX8_takeData_31 : decode cX8_takeData 31 = .ok (.iconst 0, 1) := by decide +kernel
theorem dX8_takeData_32 : decode cX8_takeData 32 = .ok (.istore 7, 2) := by decide +kernel
theorem dX8_takeData_34 : decode cX8_takeData 34 = .ok (.iload 7, 2) := by decide +kernel
theorem dX8_takeData_36 : decode cX8_takeData 36 = .ok (.bipush 32, 2) := by decide +kernel
theorem dX8_takeData_38 : decode cX8_takeData 38 = .ok (.if_icmp .ge 42, 3) := by decide +kernel
theorem dX8_takeData_41 : decode cX8_takeData 41 = .ok (.aload 5, 2) := by decide +kernel
theorem dX8_takeData_43 : decode cX8_takeData 43 = .ok (.aload 5, 2) := by decide +kernel
theorem dX8_takeData_45 : decode cX8_takeData 45 = .ok (.getfield 185, 3) := by decide +kernel
theorem dX8_takeData_48 : decode cX8_takeData 48 = .ok (.invokevirtual 300, 3) := by decide +kernel
theorem dX8_takeData_51 : decode cX8_takeData 51 = .ok (.ifCond .eq 29, 3) := by decide +kernel
theorem dX8_takeData_54 : decode cX8_takeData 54 = .ok (.aload_n 0, 1) := by decide +kernel
theorem dX8_takeData_55 : decode cX8_takeData 55 = .ok (.iload_n 1, 1) := by decide +kernel
theorem dX8_takeData_56 : decode cX8_takeData 56 = .ok (.aload 5, 2) := by decide +kernel
theorem dX8_takeData_58 : decode cX8_takeData 58 = .ok (.aload 5, 2) := by decide +kernel
theorem dX8_takeData_60 : decode cX8_takeData 60 = .ok (.getfield 185, 3) := by decide +kernel
theorem dX8_takeData_63 : decode cX8_takeData 63 = .ok (.invokevirtual 304, 3) := by decide +kernel
theorem dX8_takeData_66 : decode cX8_takeData 66 = .ok (.invokevirtual 308, 3) := by decide +kernel
theorem dX8_takeData_69 : decode cX8_takeData 69 = .ok (.aload 5, 2) := by decide +kernel
theorem dX8_takeData_71 : decode cX8_takeData 71 = .ok (.invokevirtual 312, 3) := by decide +kernel
theorem dX8_takeData_74 : decode cX8_takeData 74 = .ok (.iinc 7 1, 3) := by decide +kernel
theorem dX8_takeData_77 : decode cX8_takeData 77 = .ok (.goto (-43), 3) := by decide +kernel
theorem dX8_takeData_80 : decode cX8_takeData 80 = .ok (.aload 5, 2) := by decide +kernel
theorem dX8_takeData_82 : decode cX8_takeData 82 = .ok (.iload 6, 2) := by decide +kernel
theorem dX8_takeData_84 : decode cX8_takeData 84 = .ok (.aload_n 2, 1) := by decide +kernel
theorem dX8_takeData_85 : decode cX8_takeData 85 = .ok (.iload_n 3, 1) := by decide +kernel
theorem dX8_takeData_86 : decode cX8_takeData 86 = .ok (.invokevirtual 141, 3) := by decide +kernel
theorem dX8_takeData_89 : decode cX8_takeData 89 = .ok (.bipush 32, 2) := by decide +kernel
theorem dX8_takeData_91 : decode cX8_takeData 91 = .ok (.iand, 1) := by decide +kernel
theorem dX8_takeData_92 : decode cX8_takeData 92 = .ok (.ifCond .eq 7, 3) := by decide +kernel
theorem dX8_takeData_95 : decode cX8_takeData 95 = .ok (.iconst 1, 1) := by decide +kernel
theorem dX8_takeData_96 : decode cX8_takeData 96 = .ok (.goto 4, 3) := by decide +kernel
theorem dX8_takeData_99 : decode cX8_takeData 99 = .ok (.iconst 0, 1) := by decide +kernel
theorem dX8_takeData_100 : decode cX8_takeData 100 = .ok (.invokevirtual 315, 3) := by decide +kernel
theorem dX8_takeData_103 : decode cX8_takeData 103 = .ok (.return_, 1) := by decide +kernel
set_option maxRecDepth 20000 in
theorem ggX8_handAllWhole_X6_isWhole : GoodIn wsX8_handAllWhole wsX6_isWhole := goodIn_r _ [6, 7, 8, 9, 10, 11, 5, 12, 13, 128, 129, 130, 131, 132, 133, 134, 135, 136, 137, 138, 139, 140, 154, 155, 156, 157, 158, 159] (by decide +kernel) (by decide +kernel)
set_option maxRecDepth 20000 in
theorem gX8_handAllWhole_X6_isWhole : GoodIn wsX8_handAllWhole (wsV RX8 300 RX6 yX6_isWhole wsX6_isWhole) := goodIn_app (goodIn_of _ (by decide +kernel)) ggX8_handAllWhole_X6_isWhole
set_option maxRecDepth 20000 in
theorem ggX8_handAllWhole_X6_pieceAt : GoodIn wsX8_handAllWhole wsX6_pieceAt := goodIn_r _ [12, 13, 128, 129, 130, 131, 132, 133, 134, 135, 136, 137, 138, 139, 140] (by decide +kernel) (by decide +kernel)
set_option maxRecDepth 20000 in
theorem gX8_handAllWhole_X6_pieceAt : GoodIn wsX8_handAllWhole (wsV RX8 304 RX6 yX6_pieceAt wsX6_pieceAt) := goodIn_app (goodIn_of _ (by decide +kernel)) ggX8_handAllWhole_X6_pieceAt
set_option maxRecDepth 20000 in
theorem ggX8_handAllWhole_X8_hand : GoodIn wsX8_handAllWhole wsX8_hand := goodIn_r _ [19, 1, 20, 21, 22, 23, 24, 25, 26, 27, 28, 29, 30, 31, 32, 33, 34, 35, 36, 18, 37, 38, 39, 40, 41, 42, 43, 44, 45, 46, 47, 48, 49, 50, 51, 52, 53, 54, 55, 56, 57, 58, 59, 60, 61, 62, 63, 64, 65, 66, 67, 68, 69, 70, 71, 72, 73, 74, 75, 76, 77, 78, 79, 80, 81, 82, 83, 84, 85, 86, 87, 88, 89, 90, 91, 92, 93, 94, 95, 96, 97, 98, 99, 100, 101, 102, 103, 104, 105, 106, 107, 108, 109, 110, 111, 112, 113, 114, 115, 116, 117, 118, 119, 120, 121, 122, 123, 124, 125, 126, 127, 128, 129, 130, 131, 132, 133, 134, 135, 136, 137, 138, 139, 140, 154, 155, 156, 157, 158, 159, 141, 142, 143, 144, 145, 146, 147, 148, 149, 150, 151, 152, 153, 160, 161, 162, 163, 164, 165, 166, 167, 168, 169, 170, 171, 172, 173, 174, 175, 176, 177, 178, 179, 180, 181, 182, 183, 184, 185, 186, 187, 188, 189, 190, 191, 192] (by decide +kernel) (by decide +kernel)
set_option maxRecDepth 20000 in
theorem gX8_handAllWhole_X8_hand : GoodIn wsX8_handAllWhole (wsV RX8 308 RX8 yX8_hand wsX8_hand) := goodIn_app (goodIn_of _ (by decide +kernel)) ggX8_handAllWhole_X8_hand
theorem dX8_handAllWhole_0 : decode cX8_handAllWhole 0 = .ok (.aload_n 0, 1) := by decide +kernel
theorem dX8_handAllWhole_1 : decode cX8_handAllWhole 1 = .ok (.getfield 42, 3) := by decide +kernel
theorem dX8_handAllWhole_4 : decode cX8_handAllWhole 4 = .ok (.iload_n 1, 1) := by decide +kernel
theorem dX8_handAllWhole_5 : decode cX8_handAllWhole 5 = .ok (.aaload, 1) := by decide +kernel
theorem dX8_handAllWhole_6 : decode cX8_handAllWhole 6 = .ok (.astore_n 2, 1) := by decide +kernel
theorem dX8_handAllWhole_7 : decode cX8_handAllWhole 7 = .ok (.aload_n 2, 1) := by decide +kernel
theorem dX8_handAllWhole_8 : decode cX8_handAllWhole 8 = .ok (.getfield 185, 3) := by decide +kernel
theorem dX8_handAllWhole_11 : decode cX8_handAllWhole 11 = .ok (.istore_n 3, 1) := by decide +kernel
theorem dX8_handAllWhole_12 : decode cX8_handAllWhole 12 = .ok (.iload_n 3, 1) := by decide +kernel
theorem dX8_handAllWhole_13 : decode cX8_handAllWhole 13 = .ok (.aload_n 2, 1) := by decide +kernel
theorem dX8_handAllWhole_14 : decode cX8_handAllWhole 14 = .ok (.getfield 186, 3) := by decide +kernel
theorem dX8_handAllWhole_17 : decode cX8_handAllWhole 17 = .ok (.if_icmp .ge 38, 3) := by decide +kernel
theorem dX8_handAllWhole_20 : decode cX8_handAllWhole 20 = .ok (.aload_n 2, 1) := by decide +kernel
theorem dX8_handAllWhole_21 : decode cX8_handAllWhole 21 = .ok (.iload_n 3, 1) := by decide +kernel
theorem dX8_handAllWhole_22 : decode cX8_handAllWhole 22 = .ok (.invokevirtual 300, 3) := by decide +kernel
theorem dX8_handAllWhole_25 : decode cX8_handAllWhole 25 = .ok (.ifCond .eq 16, 3) := by decide +kernel
theorem dX8_handAllWhole_28 : decode cX8_handAllWhole 28 = .ok (.aload_n 0, 1) := by decide +kernel
theorem dX8_handAllWhole_29 : decode cX8_handAllWhole 29 = .ok (.iload_n 1, 1) := by decide +kernel
theorem dX8_handAllWhole_30 : decode cX8_handAllWhole 30 = .ok (.aload_n 2, 1) := by decide +kernel
theorem dX8_handAllWhole_31 : decode cX8_handAllWhole 31 = .ok (.iload_n 3, 1) := by decide +kernel
theorem dX8_handAllWhole_32 : decode cX8_handAllWhole 32 = .ok (.invokevirtual 304, 3) := by decide +kernel
theorem dX8_handAllWhole_35 : decode cX8_handAllWhole 35 = .ok (.invokevirtual 308, 3) := by decide +kernel
theorem dX8_handAllWhole_38 : decode cX8_handAllWhole 38 = .ok (.goto 11, 3) := by decide +kernel
theorem dX8_handAllWhole_41 : decode cX8_handAllWhole 41 = .ok (.aload_n 2, 1) := by decide +kernel
theorem dX8_handAllWhole_42 : decode cX8_handAllWhole 42 = .ok (.getfield 133, 3) := by decide +kernel
theorem dX8_handAllWhole_45 : decode cX8_handAllWhole 45 = .ok (.iconst 0, 1) := by decide +kernel
theorem dX8_handAllWhole_46 : decode cX8_handAllWhole 46 = .ok (.putfield 319, 3) := by decide +kernel
theorem dX8_handAllWhole_49 : decode cX8_handAllWhole 49 = .ok (.iinc 3 1, 3) := by decide +kernel
theorem dX8_handAllWhole_52 : decode cX8_handAllWhole 52 = .ok (.goto (-40), 3) := by decide +kernel
theorem dX8_handAllWhole_55 : decode cX8_handAllWhole 55 = .ok (.aload_n 2, 1) := by decide +kernel
theorem dX8_handAllWhole_56 : decode cX8_handAllWhole 56 = .ok (.getfield 133, 3) := by decide +kernel
theorem dX8_handAllWhole_59 : decode cX8_handAllWhole 59 = .ok (.iconst 0, 1) := by decide +kernel
theorem dX8_handAllWhole_60 : decode cX8_handAllWhole 60 = .ok (.putfield 319, 3) := by decide +kernel
theorem dX8_handAllWhole_63 : decode cX8_handAllWhole 63 = .ok (.return_, 1) := by decide +kernel
set_option maxRecDepth 20000 in
theorem ggX8_hand_X5_cell : GoodIn wsX8_hand wsX5_cell := goodIn_r _ [6, 7, 124, 125, 126, 127, 128, 129] (by decide +kernel) (by decide +kernel)
set_option maxRecDepth 20000 in
theorem gX8_hand_X5_cell : GoodIn wsX8_hand (wsV RX8 325 RX5 yX5_cell wsX5_cell) := goodIn_app (goodIn_of _ (by decide +kernel)) ggX8_hand_X5_cell
set_option maxRecDepth 20000 in
theorem ggX8_hand_X3_completes : GoodIn wsX8_hand wsX3_completes := goodIn_r _ [12, 13, 14, 15, 130, 131, 132, 133, 134, 135, 136, 137, 138, 139, 140, 141, 142] (by decide +kernel) (by decide +kernel)
set_option maxRecDepth 20000 in
theorem gX8_hand_X3_completes : GoodIn wsX8_hand (wsV RX8 328 RX3 yX3_completes wsX3_completes) := goodIn_app (goodIn_of _ (by decide +kernel)) ggX8_hand_X3_completes
set_option maxRecDepth 20000 in
theorem ggX8_hand_X8_takePacket : GoodIn wsX8_hand wsX8_takePacket := goodIn_r _ [20, 21, 22, 23, 24, 25, 26, 27, 28, 29, 30, 31, 32, 33, 34, 35, 36, 37, 38, 39, 40, 41, 42, 43, 44, 45, 11, 46, 47, 15, 48, 49, 50, 51, 52, 53, 54, 55, 56, 57, 58, 59, 60, 61, 62, 63, 64, 65, 66, 67, 68, 69, 70, 71, 72, 73, 74, 75, 76, 14, 77, 78, 79, 80, 81, 82, 83, 84, 85, 86, 87, 88, 89, 90, 91, 92, 93, 94, 130, 131, 132, 133, 134, 135, 136, 137, 138, 139, 140, 141, 142, 95, 96, 97, 98, 99, 100, 101, 102, 103, 104, 105, 106, 107, 108, 109, 110, 143, 144, 145, 146, 147, 148, 149, 150, 151, 152, 153, 154, 155, 156, 157, 158, 159, 160, 161, 162, 163, 164, 165, 166, 167, 168, 169, 170, 171, 172, 173, 174, 175] (by decide +kernel) (by decide +kernel)
set_option maxRecDepth 20000 in
theorem gX8_hand_X8_takePacket : GoodIn wsX8_hand (wsV RX8 331 RX8 yX8_takePacket wsX8_takePacket) := goodIn_app (goodIn_of _ (by decide +kernel)) ggX8_hand_X8_takePacket
theorem dX8_hand_0 : decode cX8_hand 0 = .ok (.aload_n 0, 1) := by decide +kernel
theorem dX8_hand_1 : decode cX8_hand 1 = .ok (.getfield 42, 3) := by decide +kernel
theorem dX8_hand_4 : decode cX8_hand 4 = .ok (.iload_n 1, 1) := by decide +kernel
theorem dX8_hand_5 : decode cX8_hand 5 = .ok (.aaload, 1) := by decide +kernel
theorem dX8_hand_6 : decode cX8_hand 6 = .ok (.getfield 133, 3) := by decide +kernel
theorem dX8_hand_9 : decode cX8_hand 9 = .ok (.astore_n 3, 1) := by decide +kernel
theorem dX8_hand_10 : decode cX8_hand 10 = .ok (.iconst 0, 1) := by decide +kernel
theorem dX8_hand_11 : decode cX8_hand 11 = .ok (.istore 4, 2) := by decide +kernel
theorem dX8_hand_13 : decode cX8_hand 13 = .ok (.iload 4, 2) := by decide +kernel
theorem dX8_hand_15 : decode cX8_hand 15 = .ok (.aload_n 2, 1) := by decide +kernel
theorem dX8_hand_16 : decode cX8_hand 16 = .ok (.getfield 322, 3) := by decide +kernel
theorem dX8_hand_19 : decode cX8_hand 19 = .ok (.if_icmp .ge 28, 3) := by decide +kernel
theorem dX8_hand_22 : decode cX8_hand 22 = .ok (.aload_n 3, 1) := by decide +kernel
theorem dX8_hand_23 : decode cX8_hand 23 = .ok (.aload_n 2, 1) := by decide +kernel
theorem dX8_hand_24 : decode cX8_hand 24 = .ok (.iload 4, 2) := by decide +kernel
theorem dX8_hand_26 : decode cX8_hand 26 = .ok (.invokevirtual 325, 3) := by decide +kernel
theorem dX8_hand_29 : decode cX8_hand 29 = .ok (.invokevirtual 328, 3) := by decide +kernel
theorem dX8_hand_32 : decode cX8_hand 32 = .ok (.ifCond .eq 9, 3) := by decide +kernel
theorem dX8_hand_35 : decode cX8_hand 35 = .ok (.aload_n 0, 1) := by decide +kernel
theorem dX8_hand_36 : decode cX8_hand 36 = .ok (.iload_n 1, 1) := by decide +kernel
theorem dX8_hand_37 : decode cX8_hand 37 = .ok (.aload_n 3, 1) := by decide +kernel
theorem dX8_hand_38 : decode cX8_hand 38 = .ok (.invokevirtual 331, 3) := by decide +kernel
theorem dX8_hand_41 : decode cX8_hand 41 = .ok (.iinc 4 1, 3) := by decide +kernel
theorem dX8_hand_44 : decode cX8_hand 44 = .ok (.goto (-31), 3) := by decide +kernel
theorem dX8_hand_47 : decode cX8_hand 47 = .ok (.return_, 1) := by decide +kernel
set_option maxRecDepth 20000 in
theorem ggX8_takePacket_X4_confirmReported : GoodIn wsX8_takePacket wsX4_confirmReported := goodIn_r _ [7, 8, 9, 10, 11, 12, 6, 13, 14, 15, 16, 17, 18, 19, 20, 21, 22, 122, 123, 124, 125, 126, 127, 128, 129, 130, 131, 132, 133, 134, 135, 136] (by decide +kernel) (by decide +kernel)
set_option maxRecDepth 20000 in
theorem gX8_takePacket_X4_confirmReported : GoodIn wsX8_takePacket (wsV RX8 341 RX4 yX4_confirmReported wsX4_confirmReported) := goodIn_app (goodIn_of _ (by decide +kernel)) ggX8_takePacket_X4_confirmReported
set_option maxRecDepth 20000 in
theorem ggX8_takePacket_X3_meantCount : GoodIn wsX8_takePacket wsX3_meantCount := goodIn_r _ [27, 28, 29, 78, 79, 80, 81, 82, 83, 84, 85, 86, 87, 88, 89, 90] (by decide +kernel) (by decide +kernel)
set_option maxRecDepth 20000 in
theorem gX8_takePacket_X3_meantCount : GoodIn wsX8_takePacket (wsV RX8 345 RX3 yX3_meantCount wsX3_meantCount) := goodIn_app (goodIn_of _ (by decide +kernel)) ggX8_takePacket_X3_meantCount
set_option maxRecDepth 20000 in
theorem ggX8_takePacket_X3_isDouble : GoodIn wsX8_takePacket wsX3_isDouble := goodIn_r _ [33, 28, 34, 78, 79, 80, 81, 82, 83, 84, 85, 86, 87, 88, 89, 90] (by decide +kernel) (by decide +kernel)
set_option maxRecDepth 20000 in
theorem gX8_takePacket_X3_isDouble : GoodIn wsX8_takePacket (wsV RX8 348 RX3 yX3_isDouble wsX3_isDouble) := goodIn_app (goodIn_of _ (by decide +kernel)) ggX8_takePacket_X3_isDouble
set_option maxRecDepth 20000 in
theorem ggX8_takePacket_X2_mask : GoodIn wsX8_takePacket wsX2_mask := goodIn_r _ [39, 40, 41, 42, 43, 38, 44, 45, 46, 47, 48, 49, 50, 51, 52, 53, 54, 137, 138, 139] (by decide +kernel) (by decide +kernel)
set_option maxRecDepth 20000 in
theorem gX8_takePacket_X2_mask : GoodIn wsX8_takePacket (wsV RX8 354 RX2 yX2_mask wsX2_mask) := goodIn_app (goodIn_of _ (by decide +kernel)) ggX8_takePacket_X2_mask
set_option maxRecDepth 20000 in
theorem ggX8_takePacket_X3_store : GoodIn wsX8_takePacket wsX3_store := goodIn_r _ [58, 59, 29, 60, 61, 62, 63, 64, 34, 65, 78, 79, 80, 81, 82, 83, 84, 85, 86, 87, 88, 89, 90] (by decide +kernel) (by decide +kernel)
set_option maxRecDepth 20000 in
theorem gX8_takePacket_X3_store : GoodIn wsX8_takePacket (wsV RX8 358 RX3 yX3_store wsX3_store) := goodIn_app (goodIn_of _ (by decide +kernel)) ggX8_takePacket_X3_store
set_option maxRecDepth 20000 in
theorem ggX8_takePacket_X3_deliverStored : GoodIn wsX8_takePacket wsX3_deliverStored := goodIn_r _ [69, 34, 28, 70, 71, 72, 73, 74, 60, 75, 61, 62, 63, 64, 65, 76, 77, 78, 79, 80, 81, 82, 83, 84, 85, 86, 87, 88, 89, 90] (by decide +kernel) (by decide +kernel)
set_option maxRecDepth 20000 in
theorem gX8_takePacket_X3_deliverStored : GoodIn wsX8_takePacket (wsV RX8 361 RX3 yX3_deliverStored wsX3_deliverStored) := goodIn_app (goodIn_of _ (by decide +kernel)) ggX8_takePacket_X3_deliverStored
theorem dX8_takePacket_0 : decode cX8_takePacket 0 = .ok (.aload_n 2, 1) := by decide +kernel
theorem dX8_takePacket_1 : decode cX8_takePacket 1 = .ok (.getfield 335, 3) := by decide +kernel
theorem dX8_takePacket_4 : decode cX8_takePacket 4 = .ok (.iconst 0, 1) := by decide +kernel
theorem dX8_takePacket_5 : decode cX8_takePacket 5 = .ok (.iaload, 1) := by decide +kernel
theorem dX8_takePacket_6 : decode cX8_takePacket 6 = .ok (.sipush 128, 3) := by decide +kernel
theorem dX8_takePacket_9 : decode cX8_takePacket 9 = .ok (.if_icmp .ge 24, 3) := by decide +kernel
theorem dX8_takePacket_12 : decode cX8_takePacket 12 = .ok (.aload_n 0, 1) := by decide +kernel
theorem dX8_takePacket_13 : decode cX8_takePacket 13 = .ok (.getfield 36, 3) := by decide +kernel
theorem dX8_takePacket_16 : decode cX8_takePacket 16 = .ok (.iload_n 1, 1) := by decide +kernel
theorem dX8_takePacket_17 : decode cX8_takePacket 17 = .ok (.aaload, 1) := by decide +kernel
theorem dX8_takePacket_18 : decode cX8_takePacket 18 = .ok (.getfield 71, 3) := by decide +kernel
theorem dX8_takePacket_21 : decode cX8_takePacket 21 = .ok (.aload_n 2, 1) := by decide +kernel
theorem dX8_takePacket_22 : decode cX8_takePacket 22 = .ok (.getfield 335, 3) := by decide +kernel
theorem dX8_takePacket_25 : decode cX8_takePacket 25 = .ok (.aload_n 2, 1) := by decide +kernel
theorem dX8_takePacket_26 : decode cX8_takePacket 26 = .ok (.getfield 338, 3) := by decide +kernel
theorem dX8_takePacket_29 : decode cX8_takePacket 29 = .ok (.invokevirtual 341, 3) := by decide +kernel
theorem dX8_takePacket_32 : decode cX8_takePacket 32 = .ok (.return_, 1) := by decide +kernel
theorem dX8_takePacket_33 : decode cX8_takePacket 33 = .ok (.aload_n 2, 1) := by decide +kernel
theorem dX8_takePacket_34 : decode cX8_takePacket 34 = .ok (.invokevirtual 345, 3) := by decide +kernel
theorem dX8_takePacket_37 : decode cX8_takePacket 37 = .ok (.istore_n 3, 1) := by decide +kernel
theorem dX8_takePacket_38 : decode cX8_takePacket 38 = .ok (.aload_n 2, 1) := by decide +kernel
theorem dX8_takePacket_39 : decode cX8_takePacket 39 = .ok (.iload_n 3, 1) := by decide +kernel
theorem dX8_takePacket_40 : decode cX8_takePacket 40 = .ok (.invokevirtual 348, 3) := by decide +kernel
theorem dX8_takePacket_43 : decode cX8_takePacket 43 = .ok (.ifCond .eq 14, 3) := by decide +kernel
theorem dX8_takePacket_46 : decode cX8_takePacket 46 = .ok (.aload_n 2, 1) := by decide +kernel
theorem dX8_takePacket_47 : decode cX8_takePacket 47 = .ok (.dup, 1) := by decide +kernel
theorem dX8_takePacket_48 : decode cX8_takePacket 48 = .ok (.getfield 225, 3) := by decide +kernel
theorem dX8_takePacket_51 : decode cX8_takePacket 51 = .ok (.iconst 1, 1) := by decide +kernel
theorem dX8_takePacket_52 : decode cX8_takePacket 52 = .ok (.iadd, 1) := by decide +kernel
theorem dX8_takePacket_53 : decode cX8_takePacket 53 = .ok (.putfield 225, 3) := by decide +kernel
theorem dX8_takePacket_56 : decode cX8_takePacket 56 = .ok (.return_, 1) := by decide +kernel
theorem dX8_takePacket_57 : decode cX8_takePacket 57 = .ok (.aload_n 0, 1) := by decide +kernel
theorem dX8_takePacket_58 : decode cX8_takePacket 58 = .ok (.getfield 26, 3) := by decide +kernel
theorem dX8_takePacket_61 : decode cX8_takePacket 61 = .ok (.aload_n 2, 1) := by decide +kernel
theorem dX8_takePacket_62 : decode cX8_takePacket 62 = .ok (.getfield 335, 3) := by decide +kernel
theorem dX8_takePacket_65 : decode cX8_takePacket 65 = .ok (.aload_n 2, 1) := by decide +kernel
theorem dX8_takePacket_66 : decode cX8_takePacket 66 = .ok (.getfield 338, 3) := by decide +kernel
theorem dX8_takePacket_69 : decode cX8_takePacket 69 = .ok (.iload_n 3, 1) := by decide +kernel
theorem dX8_takePacket_70 : decode cX8_takePacket 70 = .ok (.aload_n 2, 1) := by decide +kernel
theorem dX8_takePacket_71 : decode cX8_takePacket 71 = .ok (.getfield 351, 3) := by decide +kernel
theorem dX8_takePacket_74 : decode cX8_takePacket 74 = .ok (.invokevirtual 354, 3) := by decide +kernel
theorem dX8_takePacket_77 : decode cX8_takePacket 77 = .ok (.aload_n 2, 1) := by decide +kernel
theorem dX8_takePacket_78 : decode cX8_takePacket 78 = .ok (.iload_n 3, 1) := by decide +kernel
theorem dX8_takePacket_79 : decode cX8_takePacket 79 = .ok (.invokevirtual 358, 3) := by decide +kernel
theorem dX8_takePacket_82 : decode cX8_takePacket 82 = .ok (.aload_n 2, 1) := by decide +kernel
theorem dX8_takePacket_83 : decode cX8_takePacket 83 = .ok (.invokevirtual 361, 3) := by decide +kernel
theorem dX8_takePacket_86 : decode cX8_takePacket 86 = .ok (.return_, 1) := by decide +kernel
set_option maxRecDepth 20000 in
theorem ggX9_init_X9_makeBox : GoodIn wsX9_init wsX9_makeBox := goodIn_r _ [85, 73, 86, 87, 84, 88, 89, 90, 91, 92, 93, 94, 95, 96, 97, 98, 99, 100, 101, 102, 103, 104, 105, 106, 107, 108, 109, 110, 111, 112, 113, 114, 115, 116, 117, 118, 119, 120, 121, 122, 123, 124, 125, 126, 127, 128, 129, 130, 131, 132, 133, 134, 135, 136, 137, 138, 139, 140, 141, 142, 143, 144, 145, 146, 147, 148, 149, 150, 151, 152, 153, 154, 155, 156, 157, 158, 159, 160, 161, 162, 163, 164, 165, 166, 167, 168, 169, 170, 171, 172, 173] (by decide +kernel) (by decide +kernel)
set_option maxRecDepth 20000 in
theorem gX9_init_X9_makeBox : GoodIn wsX9_init (wsV RX9 235 RX9 yX9_makeBox wsX9_makeBox) := goodIn_app (goodIn_of _ (by decide +kernel)) ggX9_init_X9_makeBox
theorem dX9_init_0 : decode cX9_init 0 = .ok (.aload_n 0, 1) := by decide +kernel
theorem dX9_init_1 : decode cX9_init 1 = .ok (.invokespecial 1, 3) := by decide +kernel
theorem dX9_init_4 : decode cX9_init 4 = .ok (.aload_n 0, 1) := by decide +kernel
theorem dX9_init_5 : decode cX9_init 5 = .ok (.bipush 120, 2) := by decide +kernel
theorem dX9_init_7 : decode cX9_init 7 = .ok (.newarray .int, 2) := by decide +kernel
theorem dX9_init_9 : decode cX9_init 9 = .ok (.putfield 9, 3) := by decide +kernel
theorem dX9_init_12 : decode cX9_init 12 = .ok (.aload_n 0, 1) := by decide +kernel
theorem dX9_init_13 : decode cX9_init 13 = .ok (.bipush 6, 2) := by decide +kernel
theorem dX9_init_15 : decode cX9_init 15 = .ok (.newarray .int, 2) := by decide +kernel
theorem dX9_init_17 : decode cX9_init 17 = .ok (.putfield 13, 3) := by decide +kernel
theorem dX9_init_20 : decode cX9_init 20 = .ok (.aload_n 0, 1) := by decide +kernel
theorem dX9_init_21 : decode cX9_init 21 = .ok (.bipush 6, 2) := by decide +kernel
theorem dX9_init_23 : decode cX9_init 23 = .ok (.newarray .int, 2) := by decide +kernel
theorem dX9_init_25 : decode cX9_init 25 = .ok (.putfield 16, 3) := by decide +kernel
theorem dX9_init_28 : decode cX9_init 28 = .ok (.aload_n 0, 1) := by decide +kernel
theorem dX9_init_29 : decode cX9_init 29 = .ok (.bipush 6, 2) := by decide +kernel
theorem dX9_init_31 : decode cX9_init 31 = .ok (.newarray .int, 2) := by decide +kernel
theorem dX9_init_33 : decode cX9_init 33 = .ok (.putfield 19, 3) := by decide +kernel
theorem dX9_init_36 : decode cX9_init 36 = .ok (.aload_n 0, 1) := by decide +kernel
theorem dX9_init_37 : decode cX9_init 37 = .ok (.bipush 6, 2) := by decide +kernel
theorem dX9_init_39 : decode cX9_init 39 = .ok (.newarray .int, 2) := by decide +kernel
theorem dX9_init_41 : decode cX9_init 41 = .ok (.putfield 22, 3) := by decide +kernel
theorem dX9_init_44 : decode cX9_init 44 = .ok (.aload_n 0, 1) := by decide +kernel
theorem dX9_init_45 : decode cX9_init 45 = .ok (.bipush 6, 2) := by decide +kernel
theorem dX9_init_47 : decode cX9_init 47 = .ok (.newarray .int, 2) := by decide +kernel
theorem dX9_init_49 : decode cX9_init 49 = .ok (.putfield 25, 3) := by decide +kernel
theorem dX9_init_52 : decode cX9_init 52 = .ok (.aload_n 0, 1) := by decide +kernel
theorem dX9_init_53 : decode cX9_init 53 = .ok (.bipush 6, 2) := by decide +kernel
theorem dX9_init_55 : decode cX9_init 55 = .ok (.newarray .int, 2) := by decide +kernel
theorem dX9_init_57 : decode cX9_init 57 = .ok (.putfield 28, 3) := by decide +kernel
theorem dX9_init_60 : decode cX9_init 60 = .ok (.aload_n 0, 1) := by decide +kernel
theorem dX9_init_61 : decode cX9_init 61 = .ok (.bipush 6, 2) := by decide +kernel
theorem dX9_init_63 : decode cX9_init 63 = .ok (.newarray .int, 2) := by decide +kernel
theorem dX9_init_65 : decode cX9_init 65 = .ok (.putfield 31, 3) := by decide +kernel
theorem dX9_init_68 : decode cX9_init 68 = .ok (.aload_n 0, 1) := by decide +kernel
theorem dX9_init_69 : decode cX9_init 69 = .ok (.bipush 6, 2) := by decide +kernel
theorem dX9_init_71 : decode cX9_init 71 = .ok (.newarray .int, 2) := by decide +kernel
theorem dX9_init_73 : decode cX9_init 73 = .ok (.putfield 34, 3) := by decide +kernel
theorem dX9_init_76 : decode cX9_init 76 = .ok (.aload_n 0, 1) := by decide +kernel
theorem dX9_init_77 : decode cX9_init 77 = .ok (.bipush 6, 2) := by decide +kernel
theorem dX9_init_79 : decode cX9_init 79 = .ok (.newarray .int, 2) := by decide +kernel
theorem dX9_init_81 : decode cX9_init 81 = .ok (.putfield 37, 3) := by decide +kernel
theorem dX9_init_84 : decode cX9_init 84 = .ok (.aload_n 0, 1) := by decide +kernel
theorem dX9_init_85 : decode cX9_init 85 = .ok (.bipush 6, 2) := by decide +kernel
theorem dX9_init_87 : decode cX9_init 87 = .ok (.newarray .int, 2) := by decide +kernel
theorem dX9_init_89 : decode cX9_init 89 = .ok (.putfield 40, 3) := by decide +kernel
theorem dX9_init_92 : decode cX9_init 92 = .ok (.aload_n 0, 1) := by decide +kernel
theorem dX9_init_93 : decode cX9_init 93 = .ok (.bipush 6, 2) := by decide +kernel
theorem dX9_init_95 : decode cX9_init 95 = .ok (.newarray .boolean, 2) := by decide +kernel
theorem dX9_init_97 : decode cX9_init 97 = .ok (.putfield 43, 3) := by decide +kernel
theorem dX9_init_100 : decode cX9_init 100 = .ok (.aload_n 0, 1) := by decide +kernel
theorem dX9_init_101 : decode cX9_init 101 = .ok (.bipush 6, 2) := by decide +kernel
theorem dX9_init_103 : decode cX9_init 103 = .ok (.newarray .boolean, 2) := by decide +kernel
theorem dX9_init_105 : decode cX9_init 105 = .ok (.putfield 47, 3) := by decide +kernel
theorem dX9_init_108 : decode cX9_init 108 = .ok (.aload_n 0, 1) := by decide +kernel
theorem dX9_init_109 : decode cX9_init 109 = .ok (.iconst 3, 1) := by decide +kernel
theorem dX9_init_110 : decode cX9_init 110 = .ok (.newarray .int, 2) := by decide +kernel
theorem dX9_init_112 : decode cX9_init 112 = .ok (.putfield 50, 3) := by decide +kernel
theorem dX9_init_115 : decode cX9_init 115 = .ok (.aload_n 0, 1) := by decide +kernel
theorem dX9_init_116 : decode cX9_init 116 = .ok (.sipush 192, 3) := by decide +kernel
theorem dX9_init_119 : decode cX9_init 119 = .ok (.newarray .boolean, 2) := by decide +kernel
theorem dX9_init_121 : decode cX9_init 121 = .ok (.putfield 53, 3) := by decide +kernel
theorem dX9_init_124 : decode cX9_init 124 = .ok (.aload_n 0, 1) := by decide +kernel
theorem dX9_init_125 : decode cX9_init 125 = .ok (.sipush 192, 3) := by decide +kernel
theorem dX9_init_128 : decode cX9_init 128 = .ok (.newarray .int, 2) := by decide +kernel
theorem dX9_init_130 : decode cX9_init 130 = .ok (.putfield 56, 3) := by decide +kernel
theorem dX9_init_133 : decode cX9_init 133 = .ok (.aload_n 0, 1) := by decide +kernel
theorem dX9_init_134 : decode cX9_init 134 = .ok (.sipush 192, 3) := by decide +kernel
theorem dX9_init_137 : decode cX9_init 137 = .ok (.newarray .int, 2) := by decide +kernel
theorem dX9_init_139 : decode cX9_init 139 = .ok (.putfield 59, 3) := by decide +kernel
theorem dX9_init_142 : decode cX9_init 142 = .ok (.aload_n 0, 1) := by decide +kernel
theorem dX9_init_143 : decode cX9_init 143 = .ok (.sipush 192, 3) := by decide +kernel
theorem dX9_init_146 : decode cX9_init 146 = .ok (.newarray .int, 2) := by decide +kernel
theorem dX9_init_148 : decode cX9_init 148 = .ok (.putfield 62, 3) := by decide +kernel
theorem dX9_init_151 : decode cX9_init 151 = .ok (.aload_n 0, 1) := by decide +kernel
theorem dX9_init_152 : decode cX9_init 152 = .ok (.sipush 23040, 3) := by decide +kernel
theorem dX9_init_155 : decode cX9_init 155 = .ok (.newarray .int, 2) := by decide +kernel
theorem dX9_init_157 : decode cX9_init 157 = .ok (.putfield 65, 3) := by decide +kernel
theorem dX9_init_160 : decode cX9_init 160 = .ok (.aload_n 0, 1) := by decide +kernel
theorem dX9_init_161 : decode cX9_init 161 = .ok (.sipush 26400, 3) := by decide +kernel
theorem dX9_init_164 : decode cX9_init 164 = .ok (.newarray .int, 2) := by decide +kernel
theorem dX9_init_166 : decode cX9_init 166 = .ok (.putfield 68, 3) := by decide +kernel
theorem dX9_init_169 : decode cX9_init 169 = .ok (.aload_n 0, 1) := by decide +kernel
theorem dX9_init_170 : decode cX9_init 170 = .ok (.sipush 26400, 3) := by decide +kernel
theorem dX9_init_173 : decode cX9_init 173 = .ok (.newarray .int, 2) := by decide +kernel
theorem dX9_init_175 : decode cX9_init 175 = .ok (.putfield 71, 3) := by decide +kernel
theorem dX9_init_178 : decode cX9_init 178 = .ok (.aload_n 0, 1) := by decide +kernel
theorem dX9_init_179 : decode cX9_init 179 = .ok (.bipush 6, 2) := by decide +kernel
theorem dX9_init_181 : decode cX9_init 181 = .ok (.newarray .int, 2) := by decide +kernel
theorem dX9_init_183 : decode cX9_init 183 = .ok (.putfield 74, 3) := by decide +kernel
theorem dX9_init_186 : decode cX9_init 186 = .ok (.aload_n 0, 1) := by decide +kernel
theorem dX9_init_187 : decode cX9_init 187 = .ok (.sipush 26400, 3) := by decide +kernel
theorem dX9_init_190 : decode cX9_init 190 = .ok (.newarray .boolean, 2) := by decide +kernel
theorem dX9_init_192 : decode cX9_init 192 = .ok (.putfield 77, 3) := by decide +kernel
theorem dX9_init_195 : decode cX9_init 195 = .ok (.aload_n 0, 1) := by decide +kernel
theorem dX9_init_196 : decode cX9_init 196 = .ok (.sipush 26400, 3) := by decide +kernel
theorem dX9_init_199 : decode cX9_init 199 = .ok (.newarray .boolean, 2) := by decide +kernel
theorem dX9_init_201 : decode cX9_init 201 = .ok (.putfield 80, 3) := by decide +kernel
theorem dX9_init_204 : decode cX9_init 204 = .ok (.aload_n 0, 1) := by decide +kernel
theorem dX9_init_205 : decode cX9_init 205 = .ok (.bipush 96, 2) := by decide +kernel
theorem dX9_init_207 : decode cX9_init 207 = .ok (.newarray .int, 2) := by decide +kernel
theorem dX9_init_209 : decode cX9_init 209 = .ok (.putfield 83, 3) := by decide +kernel
theorem dX9_init_212 : decode cX9_init 212 = .ok (.aload_n 0, 1) := by decide +kernel
theorem dX9_init_213 : decode cX9_init 213 = .ok (.bipush 96, 2) := by decide +kernel
theorem dX9_init_215 : decode cX9_init 215 = .ok (.newarray .int, 2) := by decide +kernel
theorem dX9_init_217 : decode cX9_init 217 = .ok (.putfield 86, 3) := by decide +kernel
theorem dX9_init_220 : decode cX9_init 220 = .ok (.aload_n 0, 1) := by decide +kernel
theorem dX9_init_221 : decode cX9_init 221 = .ok (.sipush 23040, 3) := by decide +kernel
theorem dX9_init_224 : decode cX9_init 224 = .ok (.newarray .int, 2) := by decide +kernel
theorem dX9_init_226 : decode cX9_init 226 = .ok (.putfield 89, 3) := by decide +kernel
theorem dX9_init_229 : decode cX9_init 229 = .ok (.aload_n 0, 1) := by decide +kernel
theorem dX9_init_230 : decode cX9_init 230 = .ok (.sipush 23040, 3) := by decide +kernel
theorem dX9_init_233 : decode cX9_init 233 = .ok (.newarray .int, 2) := by decide +kernel
theorem dX9_init_235 : decode cX9_init 235 = .ok (.putfield 92, 3) := by decide +kernel
theorem dX9_init_238 : decode cX9_init 238 = .ok (.aload_n 0, 1) := by decide +kernel
theorem dX9_init_239 : decode cX9_init 239 = .ok (.bipush 96, 2) := by decide +kernel
theorem dX9_init_241 : decode cX9_init 241 = .ok (.newarray .boolean, 2) := by decide +kernel
theorem dX9_init_243 : decode cX9_init 243 = .ok (.putfield 95, 3) := by decide +kernel
theorem dX9_init_246 : decode cX9_init 246 = .ok (.aload_n 0, 1) := by decide +kernel
theorem dX9_init_247 : decode cX9_init 247 = .ok (.sipush 23040, 3) := by decide +kernel
theorem dX9_init_250 : decode cX9_init 250 = .ok (.newarray .boolean, 2) := by decide +kernel
theorem dX9_init_252 : decode cX9_init 252 = .ok (.putfield 98, 3) := by decide +kernel
theorem dX9_init_255 : decode cX9_init 255 = .ok (.aload_n 0, 1) := by decide +kernel
theorem dX9_init_256 : decode cX9_init 256 = .ok (.sipush 23040, 3) := by decide +kernel
theorem dX9_init_259 : decode cX9_init 259 = .ok (.newarray .boolean, 2) := by decide +kernel
theorem dX9_init_261 : decode cX9_init 261 = .ok (.putfield 101, 3) := by decide +kernel
theorem dX9_init_264 : decode cX9_init 264 = .ok (.aload_n 0, 1) := by decide +kernel
theorem dX9_init_265 : decode cX9_init 265 = .ok (.sipush 23040, 3) := by decide +kernel
theorem dX9_init_268 : decode cX9_init 268 = .ok (.newarray .boolean, 2) := by decide +kernel
theorem dX9_init_270 : decode cX9_init 270 = .ok (.putfield 104, 3) := by decide +kernel
theorem dX9_init_273 : decode cX9_init 273 = .ok (.aload_n 0, 1) := by decide +kernel
theorem dX9_init_274 : decode cX9_init 274 = .ok (.bipush 6, 2) := by decide +kernel
theorem dX9_init_276 : decode cX9_init 276 = .ok (.newarray .int, 2) := by decide +kernel
theorem dX9_init_278 : decode cX9_init 278 = .ok (.putfield 107, 3) := by decide +kernel
theorem dX9_init_281 : decode cX9_init 281 = .ok (.aload_n 0, 1) := by decide +kernel
theorem dX9_init_282 : decode cX9_init 282 = .ok (.bipush 6, 2) := by decide +kernel
theorem dX9_init_284 : decode cX9_init 284 = .ok (.newarray .int, 2) := by decide +kernel
theorem dX9_init_286 : decode cX9_init 286 = .ok (.putfield 110, 3) := by decide +kernel
theorem dX9_init_289 : decode cX9_init 289 = .ok (.aload_n 0, 1) := by decide +kernel
theorem dX9_init_290 : decode cX9_init 290 = .ok (.bipush 6, 2) := by decide +kernel
theorem dX9_init_292 : decode cX9_init 292 = .ok (.newarray .int, 2) := by decide +kernel
theorem dX9_init_294 : decode cX9_init 294 = .ok (.putfield 113, 3) := by decide +kernel
theorem dX9_init_297 : decode cX9_init 297 = .ok (.aload_n 0, 1) := by decide +kernel
theorem dX9_init_298 : decode cX9_init 298 = .ok (.bipush 6, 2) := by decide +kernel
theorem dX9_init_300 : decode cX9_init 300 = .ok (.newarray .int, 2) := by decide +kernel
theorem dX9_init_302 : decode cX9_init 302 = .ok (.putfield 116, 3) := by decide +kernel
theorem dX9_init_305 : decode cX9_init 305 = .ok (.aload_n 0, 1) := by decide +kernel
theorem dX9_init_306 : decode cX9_init 306 = .ok (.bipush 6, 2) := by decide +kernel
theorem dX9_init_308 : decode cX9_init 308 = .ok (.newarray .int, 2) := by decide +kernel
theorem dX9_init_310 : decode cX9_init 310 = .ok (.putfield 119, 3) := by decide +kernel
theorem dX9_init_313 : decode cX9_init 313 = .ok (.aload_n 0, 1) := by decide +kernel
theorem dX9_init_314 : decode cX9_init 314 = .ok (.bipush 6, 2) := by decide +kernel
theorem dX9_init_316 : decode cX9_init 316 = .ok (.newarray .int, 2) := by decide +kernel
theorem dX9_init_318 : decode cX9_init 318 = .ok (.putfield 122, 3) := by decide +kernel
theorem dX9_init_321 : decode cX9_init 321 = .ok (.aload_n 0, 1) := by decide +kernel
theorem dX9_init_322 : decode cX9_init 322 = .ok (.bipush 6, 2) := by decide +kernel
theorem dX9_init_324 : decode cX9_init 324 = .ok (.newarray .int, 2) := by decide +kernel
theorem dX9_init_326 : decode cX9_init 326 = .ok (.putfield 125, 3) := by decide +kernel
theorem dX9_init_329 : decode cX9_init 329 = .ok (.aload_n 0, 1) := by decide +kernel
theorem dX9_init_330 : decode cX9_init 330 = .ok (.bipush 6, 2) := by decide +kernel
theorem dX9_init_332 : decode cX9_init 332 = .ok (.newarray .int, 2) := by decide +kernel
theorem dX9_init_334 : decode cX9_init 334 = .ok (.putfield 128, 3) := by decide +kernel
theorem dX9_init_337 : decode cX9_init 337 = .ok (.aload_n 0, 1) := by decide +kernel
theorem dX9_init_338 : decode cX9_init 338 = .ok (.bipush 6, 2) := by decide +kernel
theorem dX9_init_340 : decode cX9_init 340 = .ok (.newarray .int, 2) := by decide +kernel
theorem dX9_init_342 : decode cX9_init 342 = .ok (.putfield 131, 3) := by decide +kernel
theorem dX9_init_345 : decode cX9_init 345 = .ok (.aload_n 0, 1) := by decide +kernel
theorem dX9_init_346 : decode cX9_init 346 = .ok (.bipush 6, 2) := by decide +kernel
theorem dX9_init_348 : decode cX9_init 348 = .ok (.newarray .int, 2) := by decide +kernel
theorem dX9_init_350 : decode cX9_init 350 = .ok (.putfield 134, 3) := by decide +kernel
theorem dX9_init_353 : decode cX9_init 353 = .ok (.aload_n 0, 1) := by decide +kernel
theorem dX9_init_354 : decode cX9_init 354 = .ok (.bipush 6, 2) := by decide +kernel
theorem dX9_init_356 : decode cX9_init 356 = .ok (.newarray .boolean, 2) := by decide +kernel
theorem dX9_init_358 : decode cX9_init 358 = .ok (.putfield 137, 3) := by decide +kernel
theorem dX9_init_361 : decode cX9_init 361 = .ok (.aload_n 0, 1) := by decide +kernel
theorem dX9_init_362 : decode cX9_init 362 = .ok (.sipush 192, 3) := by decide +kernel
theorem dX9_init_365 : decode cX9_init 365 = .ok (.newarray .int, 2) := by decide +kernel
theorem dX9_init_367 : decode cX9_init 367 = .ok (.putfield 140, 3) := by decide +kernel
theorem dX9_init_370 : decode cX9_init 370 = .ok (.aload_n 0, 1) := by decide +kernel
theorem dX9_init_371 : decode cX9_init 371 = .ok (.ldc 143, 2) := by decide +kernel
theorem dX9_init_373 : decode cX9_init 373 = .ok (.newarray .int, 2) := by decide +kernel
theorem dX9_init_375 : decode cX9_init 375 = .ok (.putfield 144, 3) := by decide +kernel
theorem dX9_init_378 : decode cX9_init 378 = .ok (.aload_n 0, 1) := by decide +kernel
theorem dX9_init_379 : decode cX9_init 379 = .ok (.ldc 143, 2) := by decide +kernel
theorem dX9_init_381 : decode cX9_init 381 = .ok (.newarray .boolean, 2) := by decide +kernel
theorem dX9_init_383 : decode cX9_init 383 = .ok (.putfield 147, 3) := by decide +kernel
theorem dX9_init_386 : decode cX9_init 386 = .ok (.aload_n 0, 1) := by decide +kernel
theorem dX9_init_387 : decode cX9_init 387 = .ok (.ldc 143, 2) := by decide +kernel
theorem dX9_init_389 : decode cX9_init 389 = .ok (.newarray .boolean, 2) := by decide +kernel
theorem dX9_init_391 : decode cX9_init 391 = .ok (.putfield 150, 3) := by decide +kernel
theorem dX9_init_394 : decode cX9_init 394 = .ok (.aload_n 0, 1) := by decide +kernel
theorem dX9_init_395 : decode cX9_init 395 = .ok (.ldc 143, 2) := by decide +kernel
theorem dX9_init_397 : decode cX9_init 397 = .ok (.newarray .boolean, 2) := by decide +kernel
theorem dX9_init_399 : decode cX9_init 399 = .ok (.putfield 153, 3) := by decide +kernel
theorem dX9_init_402 : decode cX9_init 402 = .ok (.aload_n 0, 1) := by decide +kernel
theorem dX9_init_403 : decode cX9_init 403 = .ok (.bipush 6, 2) := by decide +kernel
theorem dX9_init_405 : decode cX9_init 405 = .ok (.newarray .int, 2) := by decide +kernel
theorem dX9_init_407 : decode cX9_init 407 = .ok (.putfield 156, 3) := by decide +kernel
theorem dX9_init_410 : decode cX9_init 410 = .ok (.aload_n 0, 1) := by decide +kernel
theorem dX9_init_411 : decode cX9_init 411 = .ok (.sipush 1536, 3) := by decide +kernel
theorem dX9_init_414 : decode cX9_init 414 = .ok (.newarray .int, 2) := by decide +kernel
theorem dX9_init_416 : decode cX9_init 416 = .ok (.putfield 159, 3) := by decide +kernel
theorem dX9_init_419 : decode cX9_init 419 = .ok (.aload_n 0, 1) := by decide +kernel
theorem dX9_init_420 : decode cX9_init 420 = .ok (.bipush 6, 2) := by decide +kernel
theorem dX9_init_422 : decode cX9_init 422 = .ok (.newarray .int, 2) := by decide +kernel
theorem dX9_init_424 : decode cX9_init 424 = .ok (.putfield 162, 3) := by decide +kernel
theorem dX9_init_427 : decode cX9_init 427 = .ok (.aload_n 0, 1) := by decide +kernel
theorem dX9_init_428 : decode cX9_init 428 = .ok (.bipush 6, 2) := by decide +kernel
theorem dX9_init_430 : decode cX9_init 430 = .ok (.newarray .int, 2) := by decide +kernel
theorem dX9_init_432 : decode cX9_init 432 = .ok (.putfield 165, 3) := by decide +kernel
theorem dX9_init_435 : decode cX9_init 435 = .ok (.aload_n 0, 1) := by decide +kernel
theorem dX9_init_436 : decode cX9_init 436 = .ok (.bipush 6, 2) := by decide +kernel
theorem dX9_init_438 : decode cX9_init 438 = .ok (.newarray .int, 2) := by decide +kernel
theorem dX9_init_440 : decode cX9_init 440 = .ok (.putfield 168, 3) := by decide +kernel
theorem dX9_init_443 : decode cX9_init 443 = .ok (.aload_n 0, 1) := by decide +kernel
theorem dX9_init_444 : decode cX9_init 444 = .ok (.bipush 6, 2) := by decide +kernel
theorem dX9_init_446 : decode cX9_init 446 = .ok (.newarray .int, 2) := by decide +kernel
theorem dX9_init_448 : decode cX9_init 448 = .ok (.putfield 171, 3) := by decide +kernel
theorem dX9_init_451 : decode cX9_init 451 = .ok (.aload_n 0, 1) := by decide +kernel
theorem dX9_init_452 : decode cX9_init 452 = .ok (.bipush 6, 2) := by decide +kernel
theorem dX9_init_454 : decode cX9_init 454 = .ok (.newarray .int, 2) := by decide +kernel
theorem dX9_init_456 : decode cX9_init 456 = .ok (.putfield 174, 3) := by decide +kernel
theorem dX9_init_459 : decode cX9_init 459 = .ok (.aload_n 0, 1) := by decide +kernel
theorem dX9_init_460 : decode cX9_init 460 = .ok (.sipush 192, 3) := by decide +kernel
theorem dX9_init_463 : decode cX9_init 463 = .ok (.newarray .int, 2) := by decide +kernel
theorem dX9_init_465 : decode cX9_init 465 = .ok (.putfield 177, 3) := by decide +kernel
theorem dX9_init_468 : decode cX9_init 468 = .ok (.aload_n 0, 1) := by decide +kernel
theorem dX9_init_469 : decode cX9_init 469 = .ok (.sipush 23040, 3) := by decide +kernel
theorem dX9_init_472 : decode cX9_init 472 = .ok (.newarray .int, 2) := by decide +kernel
theorem dX9_init_474 : decode cX9_init 474 = .ok (.putfield 180, 3) := by decide +kernel
theorem dX9_init_477 : decode cX9_init 477 = .ok (.aload_n 0, 1) := by decide +kernel
theorem dX9_init_478 : decode cX9_init 478 = .ok (.sipush 720, 3) := by decide +kernel
theorem dX9_init_481 : decode cX9_init 481 = .ok (.newarray .int, 2) := by decide +kernel
theorem dX9_init_483 : decode cX9_init 483 = .ok (.putfield 183, 3) := by decide +kernel
theorem dX9_init_486 : decode cX9_init 486 = .ok (.aload_n 0, 1) := by decide +kernel
theorem dX9_init_487 : decode cX9_init 487 = .ok (.sipush 192, 3) := by decide +kernel
theorem dX9_init_490 : decode cX9_init 490 = .ok (.newarray .boolean, 2) := by decide +kernel
theorem dX9_init_492 : decode cX9_init 492 = .ok (.putfield 186, 3) := by decide +kernel
theorem dX9_init_495 : decode cX9_init 495 = .ok (.aload_n 0, 1) := by decide +kernel
theorem dX9_init_496 : decode cX9_init 496 = .ok (.bipush 8, 2) := by decide +kernel
theorem dX9_init_498 : decode cX9_init 498 = .ok (.newarray .int, 2) := by decide +kernel
theorem dX9_init_500 : decode cX9_init 500 = .ok (.putfield 189, 3) := by decide +kernel
theorem dX9_init_503 : decode cX9_init 503 = .ok (.aload_n 0, 1) := by decide +kernel
theorem dX9_init_504 : decode cX9_init 504 = .ok (.bipush 8, 2) := by decide +kernel
theorem dX9_init_506 : decode cX9_init 506 = .ok (.newarray .int, 2) := by decide +kernel
theorem dX9_init_508 : decode cX9_init 508 = .ok (.putfield 192, 3) := by decide +kernel
theorem dX9_init_511 : decode cX9_init 511 = .ok (.aload_n 0, 1) := by decide +kernel
theorem dX9_init_512 : decode cX9_init 512 = .ok (.sipush 2000, 3) := by decide +kernel
theorem dX9_init_515 : decode cX9_init 515 = .ok (.newarray .int, 2) := by decide +kernel
theorem dX9_init_517 : decode cX9_init 517 = .ok (.putfield 195, 3) := by decide +kernel
theorem dX9_init_520 : decode cX9_init 520 = .ok (.aload_n 0, 1) := by decide +kernel
theorem dX9_init_521 : decode cX9_init 521 = .ok (.bipush 8, 2) := by decide +kernel
theorem dX9_init_523 : decode cX9_init 523 = .ok (.newarray .boolean, 2) := by decide +kernel
theorem dX9_init_525 : decode cX9_init 525 = .ok (.putfield 198, 3) := by decide +kernel
theorem dX9_init_528 : decode cX9_init 528 = .ok (.aload_n 0, 1) := by decide +kernel
theorem dX9_init_529 : decode cX9_init 529 = .ok (.iconst 2, 1) := by decide +kernel
theorem dX9_init_530 : decode cX9_init 530 = .ok (.newarray .int, 2) := by decide +kernel
theorem dX9_init_532 : decode cX9_init 532 = .ok (.putfield 201, 3) := by decide +kernel
theorem dX9_init_535 : decode cX9_init 535 = .ok (.aload_n 0, 1) := by decide +kernel
theorem dX9_init_536 : decode cX9_init 536 = .ok (.sipush 500, 3) := by decide +kernel
theorem dX9_init_539 : decode cX9_init 539 = .ok (.newarray .int, 2) := by decide +kernel
theorem dX9_init_541 : decode cX9_init 541 = .ok (.putfield 204, 3) := by decide +kernel
theorem dX9_init_544 : decode cX9_init 544 = .ok (.aload_n 0, 1) := by decide +kernel
theorem dX9_init_545 : decode cX9_init 545 = .ok (.sipush 250, 3) := by decide +kernel
theorem dX9_init_548 : decode cX9_init 548 = .ok (.newarray .int, 2) := by decide +kernel
theorem dX9_init_550 : decode cX9_init 550 = .ok (.putfield 207, 3) := by decide +kernel
theorem dX9_init_553 : decode cX9_init 553 = .ok (.aload_n 0, 1) := by decide +kernel
theorem dX9_init_554 : decode cX9_init 554 = .ok (.sipush 256, 3) := by decide +kernel
theorem dX9_init_557 : decode cX9_init 557 = .ok (.newarray .int, 2) := by decide +kernel
theorem dX9_init_559 : decode cX9_init 559 = .ok (.putfield 210, 3) := by decide +kernel
theorem dX9_init_562 : decode cX9_init 562 = .ok (.aload_n 0, 1) := by decide +kernel
theorem dX9_init_563 : decode cX9_init 563 = .ok (.sipush 176, 3) := by decide +kernel
theorem dX9_init_566 : decode cX9_init 566 = .ok (.newarray .int, 2) := by decide +kernel
theorem dX9_init_568 : decode cX9_init 568 = .ok (.putfield 213, 3) := by decide +kernel
theorem dX9_init_571 : decode cX9_init 571 = .ok (.aload_n 0, 1) := by decide +kernel
theorem dX9_init_572 : decode cX9_init 572 = .ok (.bipush 16, 2) := by decide +kernel
theorem dX9_init_574 : decode cX9_init 574 = .ok (.newarray .int, 2) := by decide +kernel
theorem dX9_init_576 : decode cX9_init 576 = .ok (.putfield 216, 3) := by decide +kernel
theorem dX9_init_579 : decode cX9_init 579 = .ok (.aload_n 0, 1) := by decide +kernel
theorem dX9_init_580 : decode cX9_init 580 = .ok (.bipush 16, 2) := by decide +kernel
theorem dX9_init_582 : decode cX9_init 582 = .ok (.newarray .int, 2) := by decide +kernel
theorem dX9_init_584 : decode cX9_init 584 = .ok (.putfield 219, 3) := by decide +kernel
theorem dX9_init_587 : decode cX9_init 587 = .ok (.aload_n 0, 1) := by decide +kernel
theorem dX9_init_588 : decode cX9_init 588 = .ok (.sipush 128, 3) := by decide +kernel
theorem dX9_init_591 : decode cX9_init 591 = .ok (.newarray .int, 2) := by decide +kernel
theorem dX9_init_593 : decode cX9_init 593 = .ok (.putfield 222, 3) := by decide +kernel
theorem dX9_init_596 : decode cX9_init 596 = .ok (.aload_n 0, 1) := by decide +kernel
theorem dX9_init_597 : decode cX9_init 597 = .ok (.sipush 250, 3) := by decide +kernel
theorem dX9_init_600 : decode cX9_init 600 = .ok (.newarray .int, 2) := by decide +kernel
theorem dX9_init_602 : decode cX9_init 602 = .ok (.putfield 225, 3) := by decide +kernel
theorem dX9_init_605 : decode cX9_init 605 = .ok (.aload_n 0, 1) := by decide +kernel
theorem dX9_init_606 : decode cX9_init 606 = .ok (.iload_n 1, 1) := by decide +kernel
theorem dX9_init_607 : decode cX9_init 607 = .ok (.iconst 1, 1) := by decide +kernel
theorem dX9_init_608 : decode cX9_init 608 = .ok (.if_icmp .lt 8, 3) := by decide +kernel
theorem dX9_init_611 : decode cX9_init 611 = .ok (.iload_n 1, 1) := by decide +kernel
theorem dX9_init_612 : decode cX9_init 612 = .ok (.iconst 3, 1) := by decide +kernel
theorem dX9_init_613 : decode cX9_init 613 = .ok (.if_icmp .le 7, 3) := by decide +kernel
theorem dX9_init_616 : decode cX9_init 616 = .ok (.iconst 2, 1) := by decide +kernel
theorem dX9_init_617 : decode cX9_init 617 = .ok (.goto 4, 3) := by decide +kernel
theorem dX9_init_620 : decode cX9_init 620 = .ok (.iload_n 1, 1) := by decide +kernel
theorem dX9_init_621 : decode cX9_init 621 = .ok (.putfield 228, 3) := by decide +kernel
theorem dX9_init_624 : decode cX9_init 624 = .ok (.aload_n 0, 1) := by decide +kernel
theorem dX9_init_625 : decode cX9_init 625 = .ok (.iload_n 2, 1) := by decide +kernel
theorem dX9_init_626 : decode cX9_init 626 = .ok (.putfield 232, 3) := by decide +kernel
theorem dX9_init_629 : decode cX9_init 629 = .ok (.iconst 0, 1) := by decide +kernel
theorem dX9_init_630 : decode cX9_init 630 = .ok (.istore_n 3, 1) := by decide +kernel
theorem dX9_init_631 : decode cX9_init 631 = .ok (.iload_n 3, 1) := by decide +kernel
theorem dX9_init_632 : decode cX9_init 632 = .ok (.iconst 3, 1) := by decide +kernel
theorem dX9_init_633 : decode cX9_init 633 = .ok (.if_icmp .ge 17, 3) := by decide +kernel
theorem dX9_init_636 : decode cX9_init 636 = .ok (.aload_n 0, 1) := by decide +kernel
theorem dX9_init_637 : decode cX9_init 637 = .ok (.getfield 50, 3) := by decide +kernel
theorem dX9_init_640 : decode cX9_init 640 = .ok (.iload_n 3, 1) := by decide +kernel
theorem dX9_init_641 : decode cX9_init 641 = .ok (.bipush 16, 2) := by decide +kernel
theorem dX9_init_643 : decode cX9_init 643 = .ok (.iastore, 1) := by decide +kernel
theorem dX9_init_644 : decode cX9_init 644 = .ok (.iinc 3 1, 3) := by decide +kernel
theorem dX9_init_647 : decode cX9_init 647 = .ok (.goto (-16), 3) := by decide +kernel
theorem dX9_init_650 : decode cX9_init 650 = .ok (.iconst 0, 1) := by decide +kernel
theorem dX9_init_651 : decode cX9_init 651 = .ok (.istore_n 3, 1) := by decide +kernel
theorem dX9_init_652 : decode cX9_init 652 = .ok (.iload_n 3, 1) := by decide +kernel
theorem dX9_init_653 : decode cX9_init 653 = .ok (.bipush 6, 2) := by decide +kernel
theorem dX9_init_655 : decode cX9_init 655 = .ok (.if_icmp .ge 30, 3) := by decide +kernel
theorem dX9_init_658 : decode cX9_init 658 = .ok (.aload_n 0, 1) := by decide +kernel
theorem dX9_init_659 : decode cX9_init 659 = .ok (.getfield 156, 3) := by decide +kernel
theorem dX9_init_662 : decode cX9_init 662 = .ok (.iload_n 3, 1) := by decide +kernel
theorem dX9_init_663 : decode cX9_init 663 = .ok (.iconst (-1), 1) := by decide +kernel
theorem dX9_init_664 : decode cX9_init 664 = .ok (.iastore, 1) := by decide +kernel
theorem dX9_init_665 : decode cX9_init 665 = .ok (.aload_n 0, 1) := by decide +kernel
theorem dX9_init_666 : decode cX9_init 666 = .ok (.getfield 125, 3) := by decide +kernel
theorem dX9_init_669 : decode cX9_init 669 = .ok (.iload_n 3, 1) := by decide +kernel
theorem dX9_init_670 : decode cX9_init 670 = .ok (.iconst (-1), 1) := by decide +kernel
theorem dX9_init_671 : decode cX9_init 671 = .ok (.iastore, 1) := by decide +kernel
theorem dX9_init_672 : decode cX9_init 672 = .ok (.aload_n 0, 1) := by decide +kernel
theorem dX9_init_673 : decode cX9_init 673 = .ok (.getfield 25, 3) := by decide +kernel
theorem dX9_init_676 : decode cX9_init 676 = .ok (.iload_n 3, 1) := by decide +kernel
theorem dX9_init_677 : decode cX9_init 677 = .ok (.iconst (-1), 1) := by decide +kernel
theorem dX9_init_678 : decode cX9_init 678 = .ok (.iastore, 1) := by decide +kernel
theorem dX9_init_679 : decode cX9_init 679 = .ok (.iinc 3 1, 3) := by decide +kernel
theorem dX9_init_682 : decode cX9_init 682 = .ok (.goto (-30), 3) := by decide +kernel
theorem dX9_init_685 : decode cX9_init 685 = .ok (.iconst 0, 1) := by decide +kernel
theorem dX9_init_686 : decode cX9_init 686 = .ok (.istore_n 3, 1) := by decide +kernel
theorem dX9_init_687 : decode cX9_init 687 = .ok (.iload_n 3, 1) := by decide +kernel
theorem dX9_init_688 : decode cX9_init 688 = .ok (.sipush 192, 3) := by decide +kernel
theorem dX9_init_691 : decode cX9_init 691 = .ok (.if_icmp .ge 16, 3) := by decide +kernel
theorem dX9_init_694 : decode cX9_init 694 = .ok (.aload_n 0, 1) := by decide +kernel
theorem dX9_init_695 : decode cX9_init 695 = .ok (.getfield 140, 3) := by decide +kernel
theorem dX9_init_698 : decode cX9_init 698 = .ok (.iload_n 3, 1) := by decide +kernel
theorem dX9_init_699 : decode cX9_init 699 = .ok (.iconst (-1), 1) := by decide +kernel
theorem dX9_init_700 : decode cX9_init 700 = .ok (.iastore, 1) := by decide +kernel
theorem dX9_init_701 : decode cX9_init 701 = .ok (.iinc 3 1, 3) := by decide +kernel
theorem dX9_init_704 : decode cX9_init 704 = .ok (.goto (-17), 3) := by decide +kernel
theorem dX9_init_707 : decode cX9_init 707 = .ok (.aload_n 0, 1) := by decide +kernel
theorem dX9_init_708 : decode cX9_init 708 = .ok (.getfield 201, 3) := by decide +kernel
theorem dX9_init_711 : decode cX9_init 711 = .ok (.iconst 0, 1) := by decide +kernel
theorem dX9_init_712 : decode cX9_init 712 = .ok (.iconst (-1), 1) := by decide +kernel
theorem dX9_init_713 : decode cX9_init 713 = .ok (.iastore, 1) := by decide +kernel
theorem dX9_init_714 : decode cX9_init 714 = .ok (.aload_n 0, 1) := by decide +kernel
theorem dX9_init_715 : decode cX9_init 715 = .ok (.getfield 201, 3) := by decide +kernel
theorem dX9_init_718 : decode cX9_init 718 = .ok (.iconst 1, 1) := by decide +kernel
theorem dX9_init_719 : decode cX9_init 719 = .ok (.iconst (-1), 1) := by decide +kernel
theorem dX9_init_720 : decode cX9_init 720 = .ok (.iastore, 1) := by decide +kernel
theorem dX9_init_721 : decode cX9_init 721 = .ok (.aload_n 0, 1) := by decide +kernel
theorem dX9_init_722 : decode cX9_init 722 = .ok (.invokevirtual 235, 3) := by decide +kernel
theorem dX9_init_725 : decode cX9_init 725 = .ok (.return_, 1) := by decide +kernel
theorem dX9_isThere_0 : decode cX9_isThere 0 = .ok (.iload_n 1, 1) := by decide +kernel
theorem dX9_isThere_1 : decode cX9_isThere 1 = .ok (.ifCond .lt 24, 3) := by decide +kernel
theorem dX9_isThere_4 : decode cX9_isThere 4 = .ok (.iload_n 1, 1) := by decide +kernel
theorem dX9_isThere_5 : decode cX9_isThere 5 = .ok (.iconst 2, 1) := by decide +kernel
theorem dX9_isThere_6 : decode cX9_isThere 6 = .ok (.if_icmp .ge 19, 3) := by decide +kernel
theorem dX9_isThere_9 : decode cX9_isThere 9 = .ok (.iload_n 2, 1) := by decide +kernel
theorem dX9_isThere_10 : decode cX9_isThere 10 = .ok (.ifCond .lt 15, 3) := by decide +kernel
theorem dX9_isThere_13 : decode cX9_isThere 13 = .ok (.iload_n 2, 1) := by decide +kernel
theorem dX9_isThere_14 : decode cX9_isThere 14 = .ok (.aload_n 0, 1) := by decide +kernel
theorem dX9_isThere_15 : decode cX9_isThere 15 = .ok (.getfield 228, 3) := by decide +kernel
theorem dX9_isThere_18 : decode cX9_isThere 18 = .ok (.if_icmp .ge 7, 3) := by decide +kernel
theorem dX9_isThere_21 : decode cX9_isThere 21 = .ok (.iconst 1, 1) := by decide +kernel
theorem dX9_isThere_22 : decode cX9_isThere 22 = .ok (.goto 4, 3) := by decide +kernel
theorem dX9_isThere_25 : decode cX9_isThere 25 = .ok (.iconst 0, 1) := by decide +kernel
theorem dX9_isThere_26 : decode cX9_isThere 26 = .ok (.ireturn, 1) := by decide +kernel
theorem dX9_at_0 : decode cX9_at 0 = .ok (.iconst 3, 1) := by decide +kernel
theorem dX9_at_1 : decode cX9_at 1 = .ok (.iload_n 0, 1) := by decide +kernel
theorem dX9_at_2 : decode cX9_at 2 = .ok (.imul, 1) := by decide +kernel
theorem dX9_at_3 : decode cX9_at 3 = .ok (.iload_n 1, 1) := by decide +kernel
theorem dX9_at_4 : decode cX9_at 4 = .ok (.iadd, 1) := by decide +kernel
theorem dX9_at_5 : decode cX9_at 5 = .ok (.ireturn, 1) := by decide +kernel
theorem dX9_doubled_0 : decode cX9_doubled 0 = .ok (.iload_n 0, 1) := by decide +kernel
theorem dX9_doubled_1 : decode cX9_doubled 1 = .ok (.iconst 1, 1) := by decide +kernel
theorem dX9_doubled_2 : decode cX9_doubled 2 = .ok (.ishl, 1) := by decide +kernel
theorem dX9_doubled_3 : decode cX9_doubled 3 = .ok (.sipush 255, 3) := by decide +kernel
theorem dX9_doubled_6 : decode cX9_doubled 6 = .ok (.iand, 1) := by decide +kernel
theorem dX9_doubled_7 : decode cX9_doubled 7 = .ok (.iload_n 0, 1) := by decide +kernel
theorem dX9_doubled_8 : decode cX9_doubled 8 = .ok (.bipush 127, 2) := by decide +kernel
theorem dX9_doubled_10 : decode cX9_doubled 10 = .ok (.if_icmp .le 8, 3) := by decide +kernel
theorem dX9_doubled_13 : decode cX9_doubled 13 = .ok (.bipush 27, 2) := by decide +kernel
theorem dX9_doubled_15 : decode cX9_doubled 15 = .ok (.goto 4, 3) := by decide +kernel
theorem dX9_doubled_18 : decode cX9_doubled 18 = .ok (.iconst 0, 1) := by decide +kernel
theorem dX9_doubled_19 : decode cX9_doubled 19 = .ok (.ixor, 1) := by decide +kernel
theorem dX9_doubled_20 : decode cX9_doubled 20 = .ok (.ireturn, 1) := by decide +kernel
set_option maxRecDepth 20000 in
theorem ggX9_times_X9_doubled : GoodIn wsX9_times wsX9_doubled := goodIn_r _ [4] (by decide +kernel) (by decide +kernel)
set_option maxRecDepth 20000 in
theorem gX9_times_X9_doubled : GoodIn wsX9_times (va_wsS RX9 238 yX9_doubled wsX9_doubled) := goodIn_app (goodIn_of _ (by decide +kernel)) ggX9_times_X9_doubled
theorem dX9_times_0 : decode cX9_times 0 = .ok (.iconst 0, 1) := by decide +kernel
theorem dX9_times_1 : decode cX9_times 1 = .ok (.istore_n 2, 1) := by decide +kernel
theorem dX9_times_2 : decode cX9_times 2 = .ok (.iload_n 0, 1) := by decide +kernel
theorem dX9_times_3 : decode cX9_times 3 = .ok (.istore_n 3, 1) := by decide +kernel
theorem dX9_times_4 : decode cX9_times 4 = .ok (.iconst 0, 1) := by decide +kernel
theorem dX9_times_5 : decode cX9_times 5 = .ok (.istore 4, 2) := by decide +kernel
theorem dX9_times_7 : decode cX9_times 7 = .ok (.iload 4, 2) := by decide +kernel
theorem dX9_times_9 : decode cX9_times 9 = .ok (.bipush 8, 2) := by decide +kernel
theorem dX9_times_11 : decode cX9_times 11 = .ok (.if_icmp .ge 28, 3) := by decide +kernel
theorem dX9_times_14 : decode cX9_times 14 = .ok (.iload_n 1, 1) := by decide +kernel
theorem dX9_times_15 : decode cX9_times 15 = .ok (.iload 4, 2) := by decide +kernel
theorem dX9_times_17 : decode cX9_times 17 = .ok (.ishr, 1) := by decide +kernel
theorem dX9_times_18 : decode cX9_times 18 = .ok (.iconst 1, 1) := by decide +kernel
theorem dX9_times_19 : decode cX9_times 19 = .ok (.iand, 1) := by decide +kernel
theorem dX9_times_20 : decode cX9_times 20 = .ok (.iconst 1, 1) := by decide +kernel
theorem dX9_times_21 : decode cX9_times 21 = .ok (.if_icmp .ne 7, 3) := by decide +kernel
theorem dX9_times_24 : decode cX9_times 24 = .ok (.iload_n 2, 1) := by decide +kernel
theorem dX9_times_25 : decode cX9_times 25 = .ok (.iload_n 3, 1) := by decide +kernel
theorem dX9_times_26 : decode cX9_times 26 = .ok (.ixor, 1) := by decide +kernel
theorem dX9_times_27 : decode cX9_times 27 = .ok (.istore_n 2, 1) := by decide +kernel
theorem dX9_times_28 : decode cX9_times 28 = .ok (.iload_n 3, 1) := by decide +kernel
theorem dX9_times_29 : decode cX9_times 29 = .ok (.invokestatic 238, 3) := by decide +kernel
theorem dX9_times_32 : decode cX9_times 32 = .ok (.istore_n 3, 1) := by decide +kernel
theorem dX9_times_33 : decode cX9_times 33 = .ok (.iinc 4 1, 3) := by decide +kernel
theorem dX9_times_36 : decode cX9_times 36 = .ok (.goto (-29), 3) := by decide +kernel
theorem dX9_times_39 : decode cX9_times 39 = .ok (.iload_n 2, 1) := by decide +kernel
theorem dX9_times_40 : decode cX9_times 40 = .ok (.ireturn, 1) := by decide +kernel
set_option maxRecDepth 20000 in
theorem ggX9_makeBox_X9_times : GoodIn wsX9_makeBox wsX9_times := goodIn_r _ [5, 6, 7, 4, 8] (by decide +kernel) (by decide +kernel)
set_option maxRecDepth 20000 in
theorem gX9_makeBox_X9_times : GoodIn wsX9_makeBox (va_wsS RX9 242 yX9_times wsX9_times) := goodIn_app (goodIn_of _ (by decide +kernel)) ggX9_makeBox_X9_times
theorem dX9_makeBox_0 : decode cX9_makeBox 0 = .ok (.iconst 0, 1) := by decide +kernel
theorem dX9_makeBox_1 : decode cX9_makeBox 1 = .ok (.istore_n 1, 1) := by decide +kernel
theorem dX9_makeBox_2 : decode cX9_makeBox 2 = .ok (.iload_n 1, 1) := by decide +kernel
theorem dX9_makeBox_3 : decode cX9_makeBox 3 = .ok (.sipush 256, 3) := by decide +kernel
theorem dX9_makeBox_6 : decode cX9_makeBox 6 = .ok (.if_icmp .ge 85, 3) := by decide +kernel
theorem dX9_makeBox_9 : decode cX9_makeBox 9 = .ok (.iconst 0, 1) := by decide +kernel
theorem dX9_makeBox_10 : decode cX9_makeBox 10 = .ok (.istore_n 2, 1) := by decide +kernel
theorem dX9_makeBox_11 : decode cX9_makeBox 11 = .ok (.iconst 1, 1) := by decide +kernel
theorem dX9_makeBox_12 : decode cX9_makeBox 12 = .ok (.istore_n 3, 1) := by decide +kernel
theorem dX9_makeBox_13 : decode cX9_makeBox 13 = .ok (.iload_n 3, 1) := by decide +kernel
theorem dX9_makeBox_14 : decode cX9_makeBox 14 = .ok (.sipush 256, 3) := by decide +kernel
theorem dX9_makeBox_17 : decode cX9_makeBox 17 = .ok (.if_icmp .ge 24, 3) := by decide +kernel
theorem dX9_makeBox_20 : decode cX9_makeBox 20 = .ok (.iload_n 1, 1) := by decide +kernel
theorem dX9_makeBox_21 : decode cX9_makeBox 21 = .ok (.ifCond .le 20, 3) := by decide +kernel
theorem dX9_makeBox_24 : decode cX9_makeBox 24 = .ok (.iload_n 1, 1) := by decide +kernel
theorem dX9_makeBox_25 : decode cX9_makeBox 25 = .ok (.iload_n 3, 1) := by decide +kernel
theorem dX9_makeBox_26 : decode cX9_makeBox 26 = .ok (.invokestatic 242, 3) := by decide +kernel
theorem dX9_makeBox_29 : decode cX9_makeBox 29 = .ok (.iconst 1, 1) := by decide +kernel
theorem dX9_makeBox_30 : decode cX9_makeBox 30 = .ok (.if_icmp .ne 5, 3) := by decide +kernel
theorem dX9_makeBox_33 : decode cX9_makeBox 33 = .ok (.iload_n 3, 1) := by decide +kernel
theorem dX9_makeBox_34 : decode cX9_makeBox 34 = .ok (.istore_n 2, 1) := by decide +kernel
theorem dX9_makeBox_35 : decode cX9_makeBox 35 = .ok (.iinc 3 1, 3) := by decide +kernel
theorem dX9_makeBox_38 : decode cX9_makeBox 38 = .ok (.goto (-25), 3) := by decide +kernel
theorem dX9_makeBox_41 : decode cX9_makeBox 41 = .ok (.bipush 99, 2) := by decide +kernel
theorem dX9_makeBox_43 : decode cX9_makeBox 43 = .ok (.istore_n 3, 1) := by decide +kernel
theorem dX9_makeBox_44 : decode cX9_makeBox 44 = .ok (.iconst 0, 1) := by decide +kernel
theorem dX9_makeBox_45 : decode cX9_makeBox 45 = .ok (.istore 4, 2) := by decide +kernel
theorem dX9_makeBox_47 : decode cX9_makeBox 47 = .ok (.iload 4, 2) := by decide +kernel
theorem dX9_makeBox_49 : decode cX9_makeBox 49 = .ok (.iconst 5, 1) := by decide +kernel
theorem dX9_makeBox_50 : decode cX9_makeBox 50 = .ok (.if_icmp .ge 28, 3) := by decide +kernel
theorem dX9_makeBox_53 : decode cX9_makeBox 53 = .ok (.iload_n 3, 1) := by decide +kernel
theorem dX9_makeBox_54 : decode cX9_makeBox 54 = .ok (.iload_n 2, 1) := by decide +kernel
theorem dX9_makeBox_55 : decode cX9_makeBox 55 = .ok (.iload 4, 2) := by decide +kernel
theorem dX9_makeBox_57 : decode cX9_makeBox 57 = .ok (.ishl, 1) := by decide +kernel
theorem dX9_makeBox_58 : decode cX9_makeBox 58 = .ok (.iload_n 2, 1) := by decide +kernel
theorem dX9_makeBox_59 : decode cX9_makeBox 59 = .ok (.bipush 8, 2) := by decide +kernel
theorem dX9_makeBox_61 : decode cX9_makeBox 61 = .ok (.iload 4, 2) := by decide +kernel
theorem dX9_makeBox_63 : decode cX9_makeBox 63 = .ok (.isub, 1) := by decide +kernel
theorem dX9_makeBox_64 : decode cX9_makeBox 64 = .ok (.ishr, 1) := by decide +kernel
theorem dX9_makeBox_65 : decode cX9_makeBox 65 = .ok (.ior, 1) := by decide +kernel
theorem dX9_makeBox_66 : decode cX9_makeBox 66 = .ok (.sipush 255, 3) := by decide +kernel
theorem dX9_makeBox_69 : decode cX9_makeBox 69 = .ok (.iand, 1) := by decide +kernel
theorem dX9_makeBox_70 : decode cX9_makeBox 70 = .ok (.ixor, 1) := by decide +kernel
theorem dX9_makeBox_71 : decode cX9_makeBox 71 = .ok (.istore_n 3, 1) := by decide +kernel
theorem dX9_makeBox_72 : decode cX9_makeBox 72 = .ok (.iinc 4 1, 3) := by decide +kernel
theorem dX9_makeBox_75 : decode cX9_makeBox 75 = .ok (.goto (-28), 3) := by decide +kernel
theorem dX9_makeBox_78 : decode cX9_makeBox 78 = .ok (.aload_n 0, 1) := by decide +kernel
theorem dX9_makeBox_79 : decode cX9_makeBox 79 = .ok (.getfield 210, 3) := by decide +kernel
theorem dX9_makeBox_82 : decode cX9_makeBox 82 = .ok (.iload_n 1, 1) := by decide +kernel
theorem dX9_makeBox_83 : decode cX9_makeBox 83 = .ok (.iload_n 3, 1) := by decide +kernel
theorem dX9_makeBox_84 : decode cX9_makeBox 84 = .ok (.iastore, 1) := by decide +kernel
theorem dX9_makeBox_85 : decode cX9_makeBox 85 = .ok (.iinc 1 1, 3) := by decide +kernel
theorem dX9_makeBox_88 : decode cX9_makeBox 88 = .ok (.goto (-86), 3) := by decide +kernel
theorem dX9_makeBox_91 : decode cX9_makeBox 91 = .ok (.return_, 1) := by decide +kernel
set_option maxRecDepth 20000 in
theorem ggX9_makeKey_X9_doubled : GoodIn wsX9_makeKey wsX9_doubled := goodIn_r _ [8] (by decide +kernel) (by decide +kernel)
set_option maxRecDepth 20000 in
theorem gX9_makeKey_X9_doubled : GoodIn wsX9_makeKey (va_wsS RX9 238 yX9_doubled wsX9_doubled) := goodIn_app (goodIn_of _ (by decide +kernel)) ggX9_makeKey_X9_doubled
theorem dX9_makeKey_0 : decode cX9_makeKey 0 = .ok (.iconst 0, 1) := by decide +kernel
theorem dX9_makeKey_1 : decode cX9_makeKey 1 = .ok (.istore_n 1, 1) := by decide +kernel
theorem dX9_makeKey_2 : decode cX9_makeKey 2 = .ok (.iload_n 1, 1) := by decide +kernel
theorem dX9_makeKey_3 : decode cX9_makeKey 3 = .ok (.bipush 16, 2) := by decide +kernel
theorem dX9_makeKey_5 : decode cX9_makeKey 5 = .ok (.if_icmp .ge 43, 3) := by decide +kernel
theorem dX9_makeKey_8 : decode cX9_makeKey 8 = .ok (.aload_n 0, 1) := by decide +kernel
theorem dX9_makeKey_9 : decode cX9_makeKey 9 = .ok (.getfield 213, 3) := by decide +kernel
theorem dX9_makeKey_12 : decode cX9_makeKey 12 = .ok (.iload_n 1, 1) := by decide +kernel
theorem dX9_makeKey_13 : decode cX9_makeKey 13 = .ok (.aload_n 0, 1) := by decide +kernel
theorem dX9_makeKey_14 : decode cX9_makeKey 14 = .ok (.getfield 232, 3) := by decide +kernel
theorem dX9_makeKey_17 : decode cX9_makeKey 17 = .ok (.bipush 8, 2) := by decide +kernel
theorem dX9_makeKey_19 : decode cX9_makeKey 19 = .ok (.iload_n 1, 1) := by decide +kernel
theorem dX9_makeKey_20 : decode cX9_makeKey 20 = .ok (.iconst 3, 1) := by decide +kernel
theorem dX9_makeKey_21 : decode cX9_makeKey 21 = .ok (.iand, 1) := by decide +kernel
theorem dX9_makeKey_22 : decode cX9_makeKey 22 = .ok (.imul, 1) := by decide +kernel
theorem dX9_makeKey_23 : decode cX9_makeKey 23 = .ok (.ishr, 1) := by decide +kernel
theorem dX9_makeKey_24 : decode cX9_makeKey 24 = .ok (.bipush 17, 2) := by decide +kernel
theorem dX9_makeKey_26 : decode cX9_makeKey 26 = .ok (.iload_n 1, 1) := by decide +kernel
theorem dX9_makeKey_27 : decode cX9_makeKey 27 = .ok (.imul, 1) := by decide +kernel
theorem dX9_makeKey_28 : decode cX9_makeKey 28 = .ok (.iadd, 1) := by decide +kernel
theorem dX9_makeKey_29 : decode cX9_makeKey 29 = .ok (.bipush 29, 2) := by decide +kernel
theorem dX9_makeKey_31 : decode cX9_makeKey 31 = .ok (.aload_n 0, 1) := by decide +kernel
theorem dX9_makeKey_32 : decode cX9_makeKey 32 = .ok (.getfield 246, 3) := by decide +kernel
theorem dX9_makeKey_35 : decode cX9_makeKey 35 = .ok (.imul, 1) := by decide +kernel
theorem dX9_makeKey_36 : decode cX9_makeKey 36 = .ok (.iadd, 1) := by decide +kernel
theorem dX9_makeKey_37 : decode cX9_makeKey 37 = .ok (.sipush 255, 3) := by decide +kernel
theorem dX9_makeKey_40 : decode cX9_makeKey 40 = .ok (.iand, 1) := by decide +kernel
theorem dX9_makeKey_41 : decode cX9_makeKey 41 = .ok (.iastore, 1) := by decide +kernel
theorem dX9_makeKey_42 : decode cX9_makeKey 42 = .ok (.iinc 1 1, 3) := by decide +kernel
theorem dX9_makeKey_45 : decode cX9_makeKey 45 = .ok (.goto (-43), 3) := by decide +kernel
theorem dX9_makeKey_48 : decode cX9_makeKey 48 = .ok (.iconst 1, 1) := by decide +kernel
theorem dX9_makeKey_49 : decode cX9_makeKey 49 = .ok (.istore_n 1, 1) := by decide +kernel
theorem dX9_makeKey_50 : decode cX9_makeKey 50 = .ok (.bipush 16, 2) := by decide +kernel
theorem dX9_makeKey_52 : decode cX9_makeKey 52 = .ok (.istore_n 2, 1) := by decide +kernel
theorem dX9_makeKey_53 : decode cX9_makeKey 53 = .ok (.iload_n 2, 1) := by decide +kernel
theorem dX9_makeKey_54 : decode cX9_makeKey 54 = .ok (.sipush 176, 3) := by decide +kernel
theorem dX9_makeKey_57 : decode cX9_makeKey 57 = .ok (.if_icmp .ge 106, 3) := by decide +kernel
theorem dX9_makeKey_60 : decode cX9_makeKey 60 = .ok (.iconst 0, 1) := by decide +kernel
theorem dX9_makeKey_61 : decode cX9_makeKey 61 = .ok (.istore_n 3, 1) := by decide +kernel
theorem dX9_makeKey_62 : decode cX9_makeKey 62 = .ok (.iload_n 3, 1) := by decide +kernel
theorem dX9_makeKey_63 : decode cX9_makeKey 63 = .ok (.iconst 4, 1) := by decide +kernel
theorem dX9_makeKey_64 : decode cX9_makeKey 64 = .ok (.if_icmp .ge 81, 3) := by decide +kernel
theorem dX9_makeKey_67 : decode cX9_makeKey 67 = .ok (.aload_n 0, 1) := by decide +kernel
theorem dX9_makeKey_68 : decode cX9_makeKey 68 = .ok (.getfield 213, 3) := by decide +kernel
theorem dX9_makeKey_71 : decode cX9_makeKey 71 = .ok (.iload_n 2, 1) := by decide +kernel
theorem dX9_makeKey_72 : decode cX9_makeKey 72 = .ok (.iconst 4, 1) := by decide +kernel
theorem dX9_makeKey_73 : decode cX9_makeKey 73 = .ok (.isub, 1) := by decide +kernel
theorem dX9_makeKey_74 : decode cX9_makeKey 74 = .ok (.iload_n 3, 1) := by decide +kernel
theorem dX9_makeKey_75 : decode cX9_makeKey 75 = .ok (.iadd, 1) := by decide +kernel
theorem dX9_makeKey_76 : decode cX9_makeKey 76 = .ok (.iaload, 1) := by decide +kernel
theorem dX9_makeKey_77 : decode cX9_makeKey 77 = .ok (.istore 4, 2) := by decide +kernel
theorem dX9_makeKey_79 : decode cX9_makeKey 79 = .ok (.iload_n 2, 1) := by decide +kernel
theorem dX9_makeKey_80 : decode cX9_makeKey 80 = .ok (.bipush 16, 2) := by decide +kernel
theorem dX9_makeKey_82 : decode cX9_makeKey 82 = .ok (.irem, 1) := by decide +kernel
theorem dX9_makeKey_83 : decode cX9_makeKey 83 = .ok (.ifCond .ne 34, 3) := by decide +kernel
theorem dX9_makeKey_86 : decode cX9_makeKey 86 = .ok (.aload_n 0, 1) := by decide +kernel
theorem dX9_makeKey_87 : decode cX9_makeKey 87 = .ok (.getfield 210, 3) := by decide +kernel
theorem dX9_makeKey_90 : decode cX9_makeKey 90 = .ok (.aload_n 0, 1) := by decide +kernel
theorem dX9_makeKey_91 : decode cX9_makeKey 91 = .ok (.getfield 213, 3) := by decide +kernel
theorem dX9_makeKey_94 : decode cX9_makeKey 94 = .ok (.iload_n 2, 1) := by decide +kernel
theorem dX9_makeKey_95 : decode cX9_makeKey 95 = .ok (.iconst 4, 1) := by decide +kernel
theorem dX9_makeKey_96 : decode cX9_makeKey 96 = .ok (.isub, 1) := by decide +kernel
theorem dX9_makeKey_97 : decode cX9_makeKey 97 = .ok (.iload_n 3, 1) := by decide +kernel
theorem dX9_makeKey_98 : decode cX9_makeKey 98 = .ok (.iconst 1, 1) := by decide +kernel
theorem dX9_makeKey_99 : decode cX9_makeKey 99 = .ok (.iadd, 1) := by decide +kernel
theorem dX9_makeKey_100 : decode cX9_makeKey 100 = .ok (.iconst 4, 1) := by decide +kernel
theorem dX9_makeKey_101 : decode cX9_makeKey 101 = .ok (.irem, 1) := by decide +kernel
theorem dX9_makeKey_102 : decode cX9_makeKey 102 = .ok (.iadd, 1) := by decide +kernel
theorem dX9_makeKey_103 : decode cX9_makeKey 103 = .ok (.iaload, 1) := by decide +kernel
theorem dX9_makeKey_104 : decode cX9_makeKey 104 = .ok (.iaload, 1) := by decide +kernel
theorem dX9_makeKey_105 : decode cX9_makeKey 105 = .ok (.iload_n 3, 1) := by decide +kernel
theorem dX9_makeKey_106 : decode cX9_makeKey 106 = .ok (.ifCond .ne 7, 3) := by decide +kernel
theorem dX9_makeKey_109 : decode cX9_makeKey 109 = .ok (.iload_n 1, 1) := by decide +kernel
theorem dX9_makeKey_110 : decode cX9_makeKey 110 = .ok (.goto 4, 3) := by decide +kernel
theorem dX9_makeKey_113 : decode cX9_makeKey 113 = .ok (.iconst 0, 1) := by decide +kernel
theorem dX9_makeKey_114 : decode cX9_makeKey 114 = .ok (.ixor, 1) := by decide +kernel
theorem dX9_makeKey_115 : decode cX9_makeKey 115 = .ok (.istore 4, 2) := by decide +kernel
theorem dX9_makeKey_117 : decode cX9_makeKey 117 = .ok (.aload_n 0, 1) := by decide +kernel
theorem dX9_makeKey_118 : decode cX9_makeKey 118 = .ok (.getfield 213, 3) := by decide +kernel
theorem dX9_makeKey_121 : decode cX9_makeKey 121 = .ok (.iload_n 2, 1) := by decide +kernel
theorem dX9_makeKey_122 : decode cX9_makeKey 122 = .ok (.iload_n 3, 1) := by decide +kernel
theorem dX9_makeKey_123 : decode cX9_makeKey 123 = .ok (.iadd, 1) := by decide +kernel
theorem dX9_makeKey_124 : decode cX9_makeKey 124 = .ok (.aload_n 0, 1) := by decide +kernel
theorem dX9_makeKey_125 : decode cX9_makeKey 125 = .ok (.getfield 213, 3) := by decide +kernel
theorem dX9_makeKey_128 : decode cX9_makeKey 128 = .ok (.iload_n 2, 1) := by decide +kernel
theorem dX9_makeKey_129 : decode cX9_makeKey 129 = .ok (.bipush 16, 2) := by decide +kernel
theorem dX9_makeKey_131 : decode cX9_makeKey 131 = .ok (.isub, 1) := by decide +kernel
theorem dX9_makeKey_132 : decode cX9_makeKey 132 = .ok (.iload_n 3, 1) := by decide +kernel
theorem dX9_makeKey_133 : decode cX9_makeKey 133 = .ok (.iadd, 1) := by decide +kernel
theorem dX9_makeKey_134 : decode cX9_makeKey 134 = .ok (.iaload, 1) := by decide +kernel
theorem dX9_makeKey_135 : decode cX9_makeKey 135 = .ok (.iload 4, 2) := by decide +kernel
theorem dX9_makeKey_137 : decode cX9_makeKey 137 = .ok (.ixor, 1) := by decide +kernel
theorem dX9_makeKey_138 : decode cX9_makeKey 138 = .ok (.iastore, 1) := by decide +kernel
theorem dX9_makeKey_139 : decode cX9_makeKey 139 = .ok (.iinc 3 1, 3) := by decide +kernel
theorem dX9_makeKey_142 : decode cX9_makeKey 142 = .ok (.goto (-80), 3) := by decide +kernel
theorem dX9_makeKey_145 : decode cX9_makeKey 145 = .ok (.iload_n 2, 1) := by decide +kernel
theorem dX9_makeKey_146 : decode cX9_makeKey 146 = .ok (.bipush 16, 2) := by decide +kernel
theorem dX9_makeKey_148 : decode cX9_makeKey 148 = .ok (.irem, 1) := by decide +kernel
theorem dX9_makeKey_149 : decode cX9_makeKey 149 = .ok (.ifCond .ne 8, 3) := by decide +kernel
theorem dX9_makeKey_152 : decode cX9_makeKey 152 = .ok (.iload_n 1, 1) := by decide +kernel
theorem dX9_makeKey_153 : decode cX9_makeKey 153 = .ok (.invokestatic 238, 3) := by decide +kernel
theorem dX9_makeKey_156 : decode cX9_makeKey 156 = .ok (.istore_n 1, 1) := by decide +kernel
theorem dX9_makeKey_157 : decode cX9_makeKey 157 = .ok (.iinc 2 4, 3) := by decide +kernel
theorem dX9_makeKey_160 : decode cX9_makeKey 160 = .ok (.goto (-107), 3) := by decide +kernel
theorem dX9_makeKey_163 : decode cX9_makeKey 163 = .ok (.return_, 1) := by decide +kernel
set_option maxRecDepth 20000 in
theorem ggX9_encipher_X9_doubled : GoodIn wsX9_encipher wsX9_doubled := goodIn_r _ [8] (by decide +kernel) (by decide +kernel)
set_option maxRecDepth 20000 in
theorem gX9_encipher_X9_doubled : GoodIn wsX9_encipher (va_wsS RX9 238 yX9_doubled wsX9_doubled) := goodIn_app (goodIn_of _ (by decide +kernel)) ggX9_encipher_X9_doubled
theorem dX9_encipher_0 : decode cX9_encipher 0 = .ok (.iconst 0, 1) := by decide +kernel
theorem dX9_encipher_1 : decode cX9_encipher 1 = .ok (.istore_n 1, 1) := by decide +kernel
theorem dX9_encipher_2 : decode cX9_encipher 2 = .ok (.iload_n 1, 1) := by decide +kernel
theorem dX9_encipher_3 : decode cX9_encipher 3 = .ok (.bipush 16, 2) := by decide +kernel
theorem dX9_encipher_5 : decode cX9_encipher 5 = .ok (.if_icmp .ge 24, 3) := by decide +kernel
theorem dX9_encipher_8 : decode cX9_encipher 8 = .ok (.aload_n 0, 1) := by decide +kernel
theorem dX9_encipher_9 : decode cX9_encipher 9 = .ok (.getfield 216, 3) := by decide +kernel
theorem dX9_encipher_12 : decode cX9_encipher 12 = .ok (.iload_n 1, 1) := by decide +kernel
theorem dX9_encipher_13 : decode cX9_encipher 13 = .ok (.dup2, 1) := by decide +kernel
theorem dX9_encipher_14 : decode cX9_encipher 14 = .ok (.iaload, 1) := by decide +kernel
theorem dX9_encipher_15 : decode cX9_encipher 15 = .ok (.aload_n 0, 1) := by decide +kernel
theorem dX9_encipher_16 : decode cX9_encipher 16 = .ok (.getfield 213, 3) := by decide +kernel
theorem dX9_encipher_19 : decode cX9_encipher 19 = .ok (.iload_n 1, 1) := by decide +kernel
theorem dX9_encipher_20 : decode cX9_encipher 20 = .ok (.iaload, 1) := by decide +kernel
theorem dX9_encipher_21 : decode cX9_encipher 21 = .ok (.ixor, 1) := by decide +kernel
theorem dX9_encipher_22 : decode cX9_encipher 22 = .ok (.iastore, 1) := by decide +kernel
theorem dX9_encipher_23 : decode cX9_encipher 23 = .ok (.iinc 1 1, 3) := by decide +kernel
theorem dX9_encipher_26 : decode cX9_encipher 26 = .ok (.goto (-24), 3) := by decide +kernel
theorem dX9_encipher_29 : decode cX9_encipher 29 = .ok (.iconst 1, 1) := by decide +kernel
theorem dX9_encipher_30 : decode cX9_encipher 30 = .ok (.istore_n 1, 1) := by decide +kernel
theorem dX9_encipher_31 : decode cX9_encipher 31 = .ok (.iload_n 1, 1) := by decide +kernel
theorem dX9_encipher_32 : decode cX9_encipher 32 = .ok (.bipush 10, 2) := by decide +kernel
theorem dX9_encipher_34 : decode cX9_encipher 34 = .ok (.if_icmp .gt 181, 3) := by decide +kernel
theorem dX9_encipher_37 : decode cX9_encipher 37 = .ok (.iconst 0, 1) := by decide +kernel
theorem dX9_encipher_38 : decode cX9_encipher 38 = .ok (.istore_n 2, 1) := by decide +kernel
theorem dX9_encipher_39 : decode cX9_encipher 39 = .ok (.iload_n 2, 1) := by decide +kernel
theorem dX9_encipher_40 : decode cX9_encipher 40 = .ok (.bipush 16, 2) := by decide +kernel
theorem dX9_encipher_42 : decode cX9_encipher 42 = .ok (.if_icmp .ge 35, 3) := by decide +kernel
theorem dX9_encipher_45 : decode cX9_encipher 45 = .ok (.aload_n 0, 1) := by decide +kernel
theorem dX9_encipher_46 : decode cX9_encipher 46 = .ok (.getfield 219, 3) := by decide +kernel
theorem dX9_encipher_49 : decode cX9_encipher 49 = .ok (.iload_n 2, 1) := by decide +kernel
theorem dX9_encipher_50 : decode cX9_encipher 50 = .ok (.aload_n 0, 1) := by decide +kernel
theorem dX9_encipher_51 : decode cX9_encipher 51 = .ok (.getfield 210, 3) := by decide +kernel
theorem dX9_encipher_54 : decode cX9_encipher 54 = .ok (.aload_n 0, 1) := by decide +kernel
theorem dX9_encipher_55 : decode cX9_encipher 55 = .ok (.getfield 216, 3) := by decide +kernel
theorem dX9_encipher_58 : decode cX9_encipher 58 = .ok (.iload_n 2, 1) := by decide +kernel
theorem dX9_encipher_59 : decode cX9_encipher 59 = .ok (.iconst 4, 1) := by decide +kernel
theorem dX9_encipher_60 : decode cX9_encipher 60 = .ok (.iload_n 2, 1) := by decide +kernel
theorem dX9_encipher_61 : decode cX9_encipher 61 = .ok (.iconst 4, 1) := by decide +kernel
theorem dX9_encipher_62 : decode cX9_encipher 62 = .ok (.irem, 1) := by decide +kernel
theorem dX9_encipher_63 : decode cX9_encipher 63 = .ok (.imul, 1) := by decide +kernel
theorem dX9_encipher_64 : decode cX9_encipher 64 = .ok (.iadd, 1) := by decide +kernel
theorem dX9_encipher_65 : decode cX9_encipher 65 = .ok (.bipush 16, 2) := by decide +kernel
theorem dX9_encipher_67 : decode cX9_encipher 67 = .ok (.irem, 1) := by decide +kernel
theorem dX9_encipher_68 : decode cX9_encipher 68 = .ok (.iaload, 1) := by decide +kernel
theorem dX9_encipher_69 : decode cX9_encipher 69 = .ok (.iaload, 1) := by decide +kernel
theorem dX9_encipher_70 : decode cX9_encipher 70 = .ok (.iastore, 1) := by decide +kernel
theorem dX9_encipher_71 : decode cX9_encipher 71 = .ok (.iinc 2 1, 3) := by decide +kernel
theorem dX9_encipher_74 : decode cX9_encipher 74 = .ok (.goto (-35), 3) := by decide +kernel
theorem dX9_encipher_77 : decode cX9_encipher 77 = .ok (.iconst 0, 1) := by decide +kernel
theorem dX9_encipher_78 : decode cX9_encipher 78 = .ok (.istore_n 2, 1) := by decide +kernel
theorem dX9_encipher_79 : decode cX9_encipher 79 = .ok (.iload_n 2, 1) := by decide +kernel
theorem dX9_encipher_80 : decode cX9_encipher 80 = .ok (.bipush 16, 2) := by decide +kernel
theorem dX9_encipher_82 : decode cX9_encipher 82 = .ok (.if_icmp .ge 127, 3) := by decide +kernel
theorem dX9_encipher_85 : decode cX9_encipher 85 = .ok (.iload_n 2, 1) := by decide +kernel
theorem dX9_encipher_86 : decode cX9_encipher 86 = .ok (.iconst 4, 1) := by decide +kernel
theorem dX9_encipher_87 : decode cX9_encipher 87 = .ok (.idiv, 1) := by decide +kernel
theorem dX9_encipher_88 : decode cX9_encipher 88 = .ok (.iconst 4, 1) := by decide +kernel
theorem dX9_encipher_89 : decode cX9_encipher 89 = .ok (.imul, 1) := by decide +kernel
theorem dX9_encipher_90 : decode cX9_encipher 90 = .ok (.istore_n 3, 1) := by decide +kernel
theorem dX9_encipher_91 : decode cX9_encipher 91 = .ok (.iload_n 2, 1) := by decide +kernel
theorem dX9_encipher_92 : decode cX9_encipher 92 = .ok (.iconst 4, 1) := by decide +kernel
theorem dX9_encipher_93 : decode cX9_encipher 93 = .ok (.irem, 1) := by decide +kernel
theorem dX9_encipher_94 : decode cX9_encipher 94 = .ok (.istore 4, 2) := by decide +kernel
theorem dX9_encipher_96 : decode cX9_encipher 96 = .ok (.aload_n 0, 1) := by decide +kernel
theorem dX9_encipher_97 : decode cX9_encipher 97 = .ok (.getfield 219, 3) := by decide +kernel
theorem dX9_encipher_100 : decode cX9_encipher 100 = .ok (.iload_n 2, 1) := by decide +kernel
theorem dX9_encipher_101 : decode cX9_encipher 101 = .ok (.iaload, 1) := by decide +kernel
theorem dX9_encipher_102 : decode cX9_encipher 102 = .ok (.istore 5, 2) := by decide +kernel
theorem dX9_encipher_104 : decode cX9_encipher 104 = .ok (.iload_n 1, 1) := by decide +kernel
theorem dX9_encipher_105 : decode cX9_encipher 105 = .ok (.bipush 10, 2) := by decide +kernel
theorem dX9_encipher_107 : decode cX9_encipher 107 = .ok (.if_icmp .ge 76, 3) := by decide +kernel
theorem dX9_encipher_110 : decode cX9_encipher 110 = .ok (.aload_n 0, 1) := by decide +kernel
theorem dX9_encipher_111 : decode cX9_encipher 111 = .ok (.getfield 219, 3) := by decide +kernel
theorem dX9_encipher_114 : decode cX9_encipher 114 = .ok (.iload_n 3, 1) := by decide +kernel
theorem dX9_encipher_115 : decode cX9_encipher 115 = .ok (.iload 4, 2) := by decide +kernel
theorem dX9_encipher_117 : decode cX9_encipher 117 = .ok (.iadd, 1) := by decide +kernel
theorem dX9_encipher_118 : decode cX9_encipher 118 = .ok (.iaload, 1) := by decide +kernel
theorem dX9_encipher_119 : decode cX9_encipher 119 = .ok (.invokestatic 238, 3) := by decide +kernel
theorem dX9_encipher_122 : decode cX9_encipher 122 = .ok (.aload_n 0, 1) := by decide +kernel
theorem dX9_encipher_123 : decode cX9_encipher 123 = .ok (.getfield 219, 3) := by decide +kernel
theorem dX9_encipher_126 : decode cX9_encipher 126 = .ok (.iload_n 3, 1) := by decide +kernel
theorem dX9_encipher_127 : decode cX9_encipher 127 = .ok (.iload 4, 2) := by decide +kernel
theorem dX9_encipher_129 : decode cX9_encipher 129 = .ok (.iconst 1, 1) := by decide +kernel
theorem dX9_encipher_130 : decode cX9_encipher 130 = .ok (.iadd, 1) := by decide +kernel
theorem dX9_encipher_131 : decode cX9_encipher 131 = .ok (.iconst 4, 1) := by decide +kernel
theorem dX9_encipher_132 : decode cX9_encipher 132 = .ok (.irem, 1) := by decide +kernel
theorem dX9_encipher_133 : decode cX9_encipher 133 = .ok (.iadd, 1) := by decide +kernel
theorem dX9_encipher_134 : decode cX9_encipher 134 = .ok (.iaload, 1) := by decide +kernel
theorem dX9_encipher_135 : decode cX9_encipher 135 = .ok (.invokestatic 238, 3) := by decide +kernel
theorem dX9_encipher_138 : decode cX9_encipher 138 = .ok (.ixor, 1) := by decide +kernel
theorem dX9_encipher_139 : decode cX9_encipher 139 = .ok (.aload_n 0, 1) := by decide +kernel
theorem dX9_encipher_140 : decode cX9_encipher 140 = .ok (.getfield 219, 3) := by decide +kernel
theorem dX9_encipher_143 : decode cX9_encipher 143 = .ok (.iload_n 3, 1) := by decide +kernel
theorem dX9_encipher_144 : decode cX9_encipher 144 = .ok (.iload 4, 2) := by decide +kernel
theorem dX9_encipher_146 : decode cX9_encipher 146 = .ok (.iconst 1, 1) := by decide +kernel
theorem dX9_encipher_147 : decode cX9_encipher 147 = .ok (.iadd, 1) := by decide +kernel
theorem dX9_encipher_148 : decode cX9_encipher 148 = .ok (.iconst 4, 1) := by decide +kernel
theorem dX9_encipher_149 : decode cX9_encipher 149 = .ok (.irem, 1) := by decide +kernel
theorem dX9_encipher_150 : decode cX9_encipher 150 = .ok (.iadd, 1) := by decide +kernel
theorem dX9_encipher_151 : decode cX9_encipher 151 = .ok (.iaload, 1) := by decide +kernel
theorem dX9_encipher_152 : decode cX9_encipher 152 = .ok (.ixor, 1) := by decide +kernel
theorem dX9_encipher_153 : decode cX9_encipher 153 = .ok (.aload_n 0, 1) := by decide +kernel
theorem dX9_encipher_154 : decode cX9_encipher 154 = .ok (.getfield 219, 3) := by decide +kernel
theorem dX9_encipher_157 : decode cX9_encipher 157 = .ok (.iload_n 3, 1) := by decide +kernel
theorem dX9_encipher_158 : decode cX9_encipher 158 = .ok (.iload 4, 2) := by decide +kernel
theorem dX9_encipher_160 : decode cX9_encipher 160 = .ok (.iconst 2, 1) := by decide +kernel
theorem dX9_encipher_161 : decode cX9_encipher 161 = .ok (.iadd, 1) := by decide +kernel
theorem dX9_encipher_162 : decode cX9_encipher 162 = .ok (.iconst 4, 1) := by decide +kernel
theorem dX9_encipher_163 : decode cX9_encipher 163 = .ok (.irem, 1) := by decide +kernel
theorem dX9_encipher_164 : decode cX9_encipher 164 = .ok (.iadd, 1) := by decide +kernel
theorem dX9_encipher_165 : decode cX9_encipher 165 = .ok (.iaload, 1) := by decide +kernel
theorem dX9_encipher_166 : decode cX9_encipher 166 = .ok (.ixor, 1) := by decide +kernel
theorem dX9_encipher_167 : decode cX9_encipher 167 = .ok (.aload_n 0, 1) := by decide +kernel
theorem dX9_encipher_168 : decode cX9_encipher 168 = .ok (.getfield 219, 3) := by decide +kernel
theorem dX9_encipher_171 : decode cX9_encipher 171 = .ok (.iload_n 3, 1) := by decide +kernel
theorem dX9_encipher_172 : decode cX9_encipher 172 = .ok (.iload 4, 2) := by decide +kernel
theorem dX9_encipher_174 : decode cX9_encipher 174 = .ok (.iconst 3, 1) := by decide +kernel
theorem dX9_encipher_175 : decode cX9_encipher 175 = .ok (.iadd, 1) := by decide +kernel
theorem dX9_encipher_176 : decode cX9_encipher 176 = .ok (.iconst 4, 1) := by decide +kernel
theorem dX9_encipher_177 : decode cX9_encipher 177 = .ok (.irem, 1) := by decide +kernel
theorem dX9_encipher_178 : decode cX9_encipher 178 = .ok (.iadd, 1) := by decide +kernel
theorem dX9_encipher_179 : decode cX9_encipher 179 = .ok (.iaload, 1) := by decide +kernel
theorem dX9_encipher_180 : decode cX9_encipher 180 = .ok (.ixor, 1) := by decide +kernel
theorem dX9_encipher_181 : decode cX9_encipher 181 = .ok (.istore 5, 2) := by decide +kernel
theorem dX9_encipher_183 : decode cX9_encipher 183 = .ok (.aload_n 0, 1) := by decide +kernel
theorem dX9_encipher_184 : decode cX9_encipher 184 = .ok (.getfield 216, 3) := by decide +kernel
theorem dX9_encipher_187 : decode cX9_encipher 187 = .ok (.iload_n 2, 1) := by decide +kernel
theorem dX9_encipher_188 : decode cX9_encipher 188 = .ok (.iload 5, 2) := by decide +kernel
theorem dX9_encipher_190 : decode cX9_encipher 190 = .ok (.aload_n 0, 1) := by decide +kernel
theorem dX9_encipher_191 : decode cX9_encipher 191 = .ok (.getfield 213, 3) := by decide +kernel
theorem dX9_encipher_194 : decode cX9_encipher 194 = .ok (.bipush 16, 2) := by decide +kernel
theorem dX9_encipher_196 : decode cX9_encipher 196 = .ok (.iload_n 1, 1) := by decide +kernel
theorem dX9_encipher_197 : decode cX9_encipher 197 = .ok (.imul, 1) := by decide +kernel
theorem dX9_encipher_198 : decode cX9_encipher 198 = .ok (.iload_n 2, 1) := by decide +kernel
theorem dX9_encipher_199 : decode cX9_encipher 199 = .ok (.iadd, 1) := by decide +kernel
theorem dX9_encipher_200 : decode cX9_encipher 200 = .ok (.iaload, 1) := by decide +kernel
theorem dX9_encipher_201 : decode cX9_encipher 201 = .ok (.ixor, 1) := by decide +kernel
theorem dX9_encipher_202 : decode cX9_encipher 202 = .ok (.iastore, 1) := by decide +kernel
theorem dX9_encipher_203 : decode cX9_encipher 203 = .ok (.iinc 2 1, 3) := by decide +kernel
theorem dX9_encipher_206 : decode cX9_encipher 206 = .ok (.goto (-127), 3) := by decide +kernel
theorem dX9_encipher_209 : decode cX9_encipher 209 = .ok (.iinc 1 1, 3) := by decide +kernel
theorem dX9_encipher_212 : decode cX9_encipher 212 = .ok (.goto (-181), 3) := by decide +kernel
theorem dX9_encipher_215 : decode cX9_encipher 215 = .ok (.return_, 1) := by decide +kernel
set_option maxRecDepth 20000 in
theorem ggX9_makeStream_X9_makeKey : GoodIn wsX9_makeStream wsX9_makeKey := goodIn_r _ [7, 8, 9, 10, 11, 12, 13, 6, 14, 20, 21, 22, 23, 24, 25, 26, 27, 28, 29, 30, 31, 32, 33, 34, 35, 36, 37, 38, 39, 40, 41, 42, 43, 44, 45, 46, 47, 48, 49, 50, 51, 52, 53, 54, 55, 56, 57, 58, 59, 60, 61, 62, 63, 64, 65, 66, 67, 68, 69, 70, 71, 72, 73, 74, 75, 76, 77, 78, 79, 80, 81, 82, 83, 84, 85, 86, 87, 88, 89, 90, 91, 92, 93, 94, 95, 96, 97, 98, 99, 100, 101] (by decide +kernel) (by decide +kernel)
set_option maxRecDepth 20000 in
theorem gX9_makeStream_X9_makeKey : GoodIn wsX9_makeStream (wsV RX9 249 RX9 yX9_makeKey wsX9_makeKey) := goodIn_app (goodIn_of _ (by decide +kernel)) ggX9_makeStream_X9_makeKey
set_option maxRecDepth 20000 in
theorem ggX9_makeStream_X9_encipher : GoodIn wsX9_makeStream wsX9_encipher := goodIn_r _ [18, 1, 8, 19, 11, 12, 13, 6, 14, 20, 21, 22, 23, 24, 25, 26, 27, 28, 29, 30, 31, 32, 33, 34, 35, 36, 37, 38, 39, 40, 41, 42, 43, 44, 45, 46, 47, 48, 49, 50, 51, 52, 53, 54, 55, 56, 57, 58, 59, 60, 61, 62, 63, 64, 65, 66, 67, 68, 69, 70, 71, 72, 73, 74, 75, 76, 77, 78, 79, 80, 81, 82, 83, 84, 85, 86, 87, 88, 89, 90, 91, 92, 93, 94, 95, 96, 97, 98, 99, 100, 101] (by decide +kernel) (by decide +kernel)
set_option maxRecDepth 20000 in
theorem gX9_makeStream_X9_encipher : GoodIn wsX9_makeStream (wsV RX9 252 RX9 yX9_encipher wsX9_encipher) := goodIn_app (goodIn_of _ (by decide +kernel)) ggX9_makeStream_X9_encipher
theorem dX9_makeStream_0 : decode cX9_makeStream 0 = .ok (.aload_n 0, 1) := by decide +kernel
theorem dX9_makeStream_1 : decode cX9_makeStream 1 = .ok (.invokevirtual 249, 3) := by decide +kernel
theorem dX9_makeStream_4 : decode cX9_makeStream 4 = .ok (.iconst 0, 1) := by decide +kernel
theorem dX9_makeStream_5 : decode cX9_makeStream 5 = .ok (.istore 5, 2) := by decide +kernel
theorem dX9_makeStream_7 : decode cX9_makeStream 7 = .ok (.bipush 16, 2) := by decide +kernel
theorem dX9_makeStream_9 : decode cX9_makeStream 9 = .ok (.iload 5, 2) := by decide +kernel
theorem dX9_makeStream_11 : decode cX9_makeStream 11 = .ok (.imul, 1) := by decide +kernel
theorem dX9_makeStream_12 : decode cX9_makeStream 12 = .ok (.iload 4, 2) := by decide +kernel
theorem dX9_makeStream_14 : decode cX9_makeStream 14 = .ok (.if_icmp .ge 138, 3) := by decide +kernel
theorem dX9_makeStream_17 : decode cX9_makeStream 17 = .ok (.iconst 0, 1) := by decide +kernel
theorem dX9_makeStream_18 : decode cX9_makeStream 18 = .ok (.istore 6, 2) := by decide +kernel
theorem dX9_makeStream_20 : decode cX9_makeStream 20 = .ok (.iload 6, 2) := by decide +kernel
theorem dX9_makeStream_22 : decode cX9_makeStream 22 = .ok (.bipush 16, 2) := by decide +kernel
theorem dX9_makeStream_24 : decode cX9_makeStream 24 = .ok (.if_icmp .ge 82, 3) := by decide +kernel
theorem dX9_makeStream_27 : decode cX9_makeStream 27 = .ok (.aload_n 0, 1) := by decide +kernel
theorem dX9_makeStream_28 : decode cX9_makeStream 28 = .ok (.getfield 216, 3) := by decide +kernel
theorem dX9_makeStream_31 : decode cX9_makeStream 31 = .ok (.iload 6, 2) := by decide +kernel
theorem dX9_makeStream_33 : decode cX9_makeStream 33 = .ok (.iload 6, 2) := by decide +kernel
theorem dX9_makeStream_35 : decode cX9_makeStream 35 = .ok (.iconst 4, 1) := by decide +kernel
theorem dX9_makeStream_36 : decode cX9_makeStream 36 = .ok (.if_icmp .ge 20, 3) := by decide +kernel
theorem dX9_makeStream_39 : decode cX9_makeStream 39 = .ok (.iload_n 3, 1) := by decide +kernel
theorem dX9_makeStream_40 : decode cX9_makeStream 40 = .ok (.bipush 24, 2) := by decide +kernel
theorem dX9_makeStream_42 : decode cX9_makeStream 42 = .ok (.bipush 8, 2) := by decide +kernel
theorem dX9_makeStream_44 : decode cX9_makeStream 44 = .ok (.iload 6, 2) := by decide +kernel
theorem dX9_makeStream_46 : decode cX9_makeStream 46 = .ok (.imul, 1) := by decide +kernel
theorem dX9_makeStream_47 : decode cX9_makeStream 47 = .ok (.isub, 1) := by decide +kernel
theorem dX9_makeStream_48 : decode cX9_makeStream 48 = .ok (.ishr, 1) := by decide +kernel
theorem dX9_makeStream_49 : decode cX9_makeStream 49 = .ok (.sipush 255, 3) := by decide +kernel
theorem dX9_makeStream_52 : decode cX9_makeStream 52 = .ok (.iand, 1) := by decide +kernel
theorem dX9_makeStream_53 : decode cX9_makeStream 53 = .ok (.goto 46, 3) := by decide +kernel
theorem dX9_makeStream_56 : decode cX9_makeStream 56 = .ok (.iload 6, 2) := by decide +kernel
theorem dX9_makeStream_58 : decode cX9_makeStream 58 = .ok (.iconst 4, 1) := by decide +kernel
theorem dX9_makeStream_59 : decode cX9_makeStream 59 = .ok (.if_icmp .ne 14, 3) := by decide +kernel
theorem dX9_makeStream_62 : decode cX9_makeStream 62 = .ok (.bipush 8, 2) := by decide +kernel
theorem dX9_makeStream_64 : decode cX9_makeStream 64 = .ok (.iload_n 2, 1) := by decide +kernel
theorem dX9_makeStream_65 : decode cX9_makeStream 65 = .ok (.imul, 1) := by decide +kernel
theorem dX9_makeStream_66 : decode cX9_makeStream 66 = .ok (.iconst 4, 1) := by decide +kernel
theorem dX9_makeStream_67 : decode cX9_makeStream 67 = .ok (.iload_n 1, 1) := by decide +kernel
theorem dX9_makeStream_68 : decode cX9_makeStream 68 = .ok (.imul, 1) := by decide +kernel
theorem dX9_makeStream_69 : decode cX9_makeStream 69 = .ok (.iadd, 1) := by decide +kernel
theorem dX9_makeStream_70 : decode cX9_makeStream 70 = .ok (.goto 29, 3) := by decide +kernel
theorem dX9_makeStream_73 : decode cX9_makeStream 73 = .ok (.iload 6, 2) := by decide +kernel
theorem dX9_makeStream_75 : decode cX9_makeStream 75 = .ok (.bipush 12, 2) := by decide +kernel
theorem dX9_makeStream_77 : decode cX9_makeStream 77 = .ok (.if_icmp .ge 7, 3) := by decide +kernel
theorem dX9_makeStream_80 : decode cX9_makeStream 80 = .ok (.iconst 0, 1) := by decide +kernel
theorem dX9_makeStream_81 : decode cX9_makeStream 81 = .ok (.goto 18, 3) := by decide +kernel
theorem dX9_makeStream_84 : decode cX9_makeStream 84 = .ok (.iload 5, 2) := by decide +kernel
theorem dX9_makeStream_86 : decode cX9_makeStream 86 = .ok (.bipush 8, 2) := by decide +kernel
theorem dX9_makeStream_88 : decode cX9_makeStream 88 = .ok (.bipush 15, 2) := by decide +kernel
theorem dX9_makeStream_90 : decode cX9_makeStream 90 = .ok (.iload 6, 2) := by decide +kernel
theorem dX9_makeStream_92 : decode cX9_makeStream 92 = .ok (.isub, 1) := by decide +kernel
theorem dX9_makeStream_93 : decode cX9_makeStream 93 = .ok (.imul, 1) := by decide +kernel
theorem dX9_makeStream_94 : decode cX9_makeStream 94 = .ok (.ishr, 1) := by decide +kernel
theorem dX9_makeStream_95 : decode cX9_makeStream 95 = .ok (.sipush 255, 3) := by decide +kernel
theorem dX9_makeStream_98 : decode cX9_makeStream 98 = .ok (.iand, 1) := by decide +kernel
theorem dX9_makeStream_99 : decode cX9_makeStream 99 = .ok (.iastore, 1) := by decide +kernel
theorem dX9_makeStream_100 : decode cX9_makeStream 100 = .ok (.iinc 6 1, 3) := by decide +kernel
theorem dX9_makeStream_103 : decode cX9_makeStream 103 = .ok (.goto (-83), 3) := by decide +kernel
theorem dX9_makeStream_106 : decode cX9_makeStream 106 = .ok (.aload_n 0, 1) := by decide +kernel
theorem dX9_makeStream_107 : decode cX9_makeStream 107 = .ok (.invokevirtual 252, 3) := by decide +kernel
theorem dX9_makeStream_110 : decode cX9_makeStream 110 = .ok (.iconst 0, 1) := by decide +kernel
theorem dX9_makeStream_111 : decode cX9_makeStream 111 = .ok (.istore 6, 2) := by decide +kernel
theorem dX9_makeStream_113 : decode cX9_makeStream 113 = .ok (.iload 6, 2) := by decide +kernel
theorem dX9_makeStream_115 : decode cX9_makeStream 115 = .ok (.bipush 16, 2) := by decide +kernel
theorem dX9_makeStream_117 : decode cX9_makeStream 117 = .ok (.if_icmp .ge 29, 3) := by decide +kernel
theorem dX9_makeStream_120 : decode cX9_makeStream 120 = .ok (.aload_n 0, 1) := by decide +kernel
theorem dX9_makeStream_121 : decode cX9_makeStream 121 = .ok (.getfield 222, 3) := by decide +kernel
theorem dX9_makeStream_124 : decode cX9_makeStream 124 = .ok (.bipush 16, 2) := by decide +kernel
theorem dX9_makeStream_126 : decode cX9_makeStream 126 = .ok (.iload 5, 2) := by decide +kernel
theorem dX9_makeStream_128 : decode cX9_makeStream 128 = .ok (.imul, 1) := by decide +kernel
theorem dX9_makeStream_129 : decode cX9_makeStream 129 = .ok (.iload 6, 2) := by decide +kernel
theorem dX9_makeStream_131 : decode cX9_makeStream 131 = .ok (.iadd, 1) := by decide +kernel
theorem dX9_makeStream_132 : decode cX9_makeStream 132 = .ok (.aload_n 0, 1) := by decide +kernel
theorem dX9_makeStream_133 : decode cX9_makeStream 133 = .ok (.getfield 216, 3) := by decide +kernel
theorem dX9_makeStream_136 : decode cX9_makeStream 136 = .ok (.iload 6, 2) := by decide +kernel
theorem dX9_makeStream_138 : decode cX9_makeStream 138 = .ok (.iaload, 1) := by decide +kernel
theorem dX9_makeStream_139 : decode cX9_makeStream 139 = .ok (.iastore, 1) := by decide +kernel
theorem dX9_makeStream_140 : decode cX9_makeStream 140 = .ok (.iinc 6 1, 3) := by decide +kernel
theorem dX9_makeStream_143 : decode cX9_makeStream 143 = .ok (.goto (-30), 3) := by decide +kernel
theorem dX9_makeStream_146 : decode cX9_makeStream 146 = .ok (.iinc 5 1, 3) := by decide +kernel
theorem dX9_makeStream_149 : decode cX9_makeStream 149 = .ok (.goto (-142), 3) := by decide +kernel
theorem dX9_makeStream_152 : decode cX9_makeStream 152 = .ok (.return_, 1) := by decide +kernel
theorem dX9_feed_0 : decode cX9_feed 0 = .ok (.aload_n 0, 1) := by decide +kernel
theorem dX9_feed_1 : decode cX9_feed 1 = .ok (.getfield 255, 3) := by decide +kernel
theorem dX9_feed_4 : decode cX9_feed 4 = .ok (.bipush 20, 2) := by decide +kernel
theorem dX9_feed_6 : decode cX9_feed 6 = .ok (.iadd, 1) := by decide +kernel
theorem dX9_feed_7 : decode cX9_feed 7 = .ok (.bipush 120, 2) := by decide +kernel
theorem dX9_feed_9 : decode cX9_feed 9 = .ok (.if_icmp .le 5, 3) := by decide +kernel
theorem dX9_feed_12 : decode cX9_feed 12 = .ok (.iconst (-1), 1) := by decide +kernel
theorem dX9_feed_13 : decode cX9_feed 13 = .ok (.ireturn, 1) := by decide +kernel
theorem dX9_feed_14 : decode cX9_feed 14 = .ok (.iconst 0, 1) := by decide +kernel
theorem dX9_feed_15 : decode cX9_feed 15 = .ok (.istore 6, 2) := by decide +kernel
theorem dX9_feed_17 : decode cX9_feed 17 = .ok (.iload 6, 2) := by decide +kernel
theorem dX9_feed_19 : decode cX9_feed 19 = .ok (.bipush 20, 2) := by decide +kernel
theorem dX9_feed_21 : decode cX9_feed 21 = .ok (.if_icmp .ge 86, 3) := by decide +kernel
theorem dX9_feed_24 : decode cX9_feed 24 = .ok (.iload 6, 2) := by decide +kernel
theorem dX9_feed_26 : decode cX9_feed 26 = .ok (.iconst 4, 1) := by decide +kernel
theorem dX9_feed_27 : decode cX9_feed 27 = .ok (.if_icmp .ge 7, 3) := by decide +kernel
theorem dX9_feed_30 : decode cX9_feed 30 = .ok (.iload_n 1, 1) := by decide +kernel
theorem dX9_feed_31 : decode cX9_feed 31 = .ok (.goto 39, 3) := by decide +kernel
theorem dX9_feed_34 : decode cX9_feed 34 = .ok (.iload 6, 2) := by decide +kernel
theorem dX9_feed_36 : decode cX9_feed 36 = .ok (.bipush 8, 2) := by decide +kernel
theorem dX9_feed_38 : decode cX9_feed 38 = .ok (.if_icmp .ge 7, 3) := by decide +kernel
theorem dX9_feed_41 : decode cX9_feed 41 = .ok (.iload_n 2, 1) := by decide +kernel
theorem dX9_feed_42 : decode cX9_feed 42 = .ok (.goto 28, 3) := by decide +kernel
theorem dX9_feed_45 : decode cX9_feed 45 = .ok (.iload 6, 2) := by decide +kernel
theorem dX9_feed_47 : decode cX9_feed 47 = .ok (.bipush 12, 2) := by decide +kernel
theorem dX9_feed_49 : decode cX9_feed 49 = .ok (.if_icmp .ge 7, 3) := by decide +kernel
theorem dX9_feed_52 : decode cX9_feed 52 = .ok (.iload_n 3, 1) := by decide +kernel
theorem dX9_feed_53 : decode cX9_feed 53 = .ok (.goto 17, 3) := by decide +kernel
theorem dX9_feed_56 : decode cX9_feed 56 = .ok (.iload 6, 2) := by decide +kernel
theorem dX9_feed_58 : decode cX9_feed 58 = .ok (.bipush 16, 2) := by decide +kernel
theorem dX9_feed_60 : decode cX9_feed 60 = .ok (.if_icmp .ge 8, 3) := by decide +kernel
theorem dX9_feed_63 : decode cX9_feed 63 = .ok (.iload 4, 2) := by decide +kernel
theorem dX9_feed_65 : decode cX9_feed 65 = .ok (.goto 5, 3) := by decide +kernel
theorem dX9_feed_68 : decode cX9_feed 68 = .ok (.iload 5, 2) := by decide +kernel
theorem dX9_feed_70 : decode cX9_feed 70 = .ok (.istore 7, 2) := by decide +kernel
theorem dX9_feed_72 : decode cX9_feed 72 = .ok (.aload_n 0, 1) := by decide +kernel
theorem dX9_feed_73 : decode cX9_feed 73 = .ok (.getfield 9, 3) := by decide +kernel
theorem dX9_feed_76 : decode cX9_feed 76 = .ok (.aload_n 0, 1) := by decide +kernel
theorem dX9_feed_77 : decode cX9_feed 77 = .ok (.getfield 255, 3) := by decide +kernel
theorem dX9_feed_80 : decode cX9_feed 80 = .ok (.iload 6, 2) := by decide +kernel
theorem dX9_feed_82 : decode cX9_feed 82 = .ok (.iadd, 1) := by decide +kernel
theorem dX9_feed_83 : decode cX9_feed 83 = .ok (.iload 7, 2) := by decide +kernel
theorem dX9_feed_85 : decode cX9_feed 85 = .ok (.bipush 24, 2) := by decide +kernel
theorem dX9_feed_87 : decode cX9_feed 87 = .ok (.bipush 8, 2) := by decide +kernel
theorem dX9_feed_89 : decode cX9_feed 89 = .ok (.iload 6, 2) := by decide +kernel
theorem dX9_feed_91 : decode cX9_feed 91 = .ok (.iconst 4, 1) := by decide +kernel
theorem dX9_feed_92 : decode cX9_feed 92 = .ok (.irem, 1) := by decide +kernel
theorem dX9_feed_93 : decode cX9_feed 93 = .ok (.imul, 1) := by decide +kernel
theorem dX9_feed_94 : decode cX9_feed 94 = .ok (.isub, 1) := by decide +kernel
theorem dX9_feed_95 : decode cX9_feed 95 = .ok (.ishr, 1) := by decide +kernel
theorem dX9_feed_96 : decode cX9_feed 96 = .ok (.sipush 255, 3) := by decide +kernel
theorem dX9_feed_99 : decode cX9_feed 99 = .ok (.iand, 1) := by decide +kernel
theorem dX9_feed_100 : decode cX9_feed 100 = .ok (.iastore, 1) := by decide +kernel
theorem dX9_feed_101 : decode cX9_feed 101 = .ok (.iinc 6 1, 3) := by decide +kernel
theorem dX9_feed_104 : decode cX9_feed 104 = .ok (.goto (-87), 3) := by decide +kernel
theorem dX9_feed_107 : decode cX9_feed 107 = .ok (.aload_n 0, 1) := by decide +kernel
theorem dX9_feed_108 : decode cX9_feed 108 = .ok (.dup, 1) := by decide +kernel
theorem dX9_feed_109 : decode cX9_feed 109 = .ok (.getfield 255, 3) := by decide +kernel
theorem dX9_feed_112 : decode cX9_feed 112 = .ok (.bipush 20, 2) := by decide +kernel
theorem dX9_feed_114 : decode cX9_feed 114 = .ok (.iadd, 1) := by decide +kernel
theorem dX9_feed_115 : decode cX9_feed 115 = .ok (.putfield 255, 3) := by decide +kernel
theorem dX9_feed_118 : decode cX9_feed 118 = .ok (.aload_n 0, 1) := by decide +kernel
theorem dX9_feed_119 : decode cX9_feed 119 = .ok (.getfield 255, 3) := by decide +kernel
theorem dX9_feed_122 : decode cX9_feed 122 = .ok (.ireturn, 1) := by decide +kernel
theorem dX9_end_0 : decode cX9_end 0 = .ok (.iload_n 1, 1) := by decide +kernel
theorem dX9_end_1 : decode cX9_end 1 = .ok (.ifCond .lt 11, 3) := by decide +kernel
theorem dX9_end_4 : decode cX9_end 4 = .ok (.iload_n 1, 1) := by decide +kernel
theorem dX9_end_5 : decode cX9_end 5 = .ok (.aload_n 0, 1) := by decide +kernel
theorem dX9_end_6 : decode cX9_end 6 = .ok (.getfield 255, 3) := by decide +kernel
theorem dX9_end_9 : decode cX9_end 9 = .ok (.if_icmp .le 5, 3) := by decide +kernel
theorem dX9_end_12 : decode cX9_end 12 = .ok (.iconst (-1), 1) := by decide +kernel
theorem dX9_end_13 : decode cX9_end 13 = .ok (.ireturn, 1) := by decide +kernel
theorem dX9_end_14 : decode cX9_end 14 = .ok (.aload_n 0, 1) := by decide +kernel
theorem dX9_end_15 : decode cX9_end 15 = .ok (.iload_n 1, 1) := by decide +kernel
theorem dX9_end_16 : decode cX9_end 16 = .ok (.putfield 255, 3) := by decide +kernel
theorem dX9_end_19 : decode cX9_end 19 = .ok (.iload_n 1, 1) := by decide +kernel
theorem dX9_end_20 : decode cX9_end 20 = .ok (.ireturn, 1) := by decide +kernel
theorem dX9_lowest_0 : decode cX9_lowest 0 = .ok (.aload_n 0, 1) := by decide +kernel
theorem dX9_lowest_1 : decode cX9_lowest 1 = .ok (.getfield 13, 3) := by decide +kernel
theorem dX9_lowest_4 : decode cX9_lowest 4 = .ok (.iload_n 1, 1) := by decide +kernel
theorem dX9_lowest_5 : decode cX9_lowest 5 = .ok (.iaload, 1) := by decide +kernel
theorem dX9_lowest_6 : decode cX9_lowest 6 = .ok (.bipush 24, 2) := by decide +kernel
theorem dX9_lowest_8 : decode cX9_lowest 8 = .ok (.isub, 1) := by decide +kernel
theorem dX9_lowest_9 : decode cX9_lowest 9 = .ok (.ifCond .ge 7, 3) := by decide +kernel
theorem dX9_lowest_12 : decode cX9_lowest 12 = .ok (.iconst 0, 1) := by decide +kernel
theorem dX9_lowest_13 : decode cX9_lowest 13 = .ok (.goto 12, 3) := by decide +kernel
theorem dX9_lowest_16 : decode cX9_lowest 16 = .ok (.aload_n 0, 1) := by decide +kernel
theorem dX9_lowest_17 : decode cX9_lowest 17 = .ok (.getfield 13, 3) := by decide +kernel
theorem dX9_lowest_20 : decode cX9_lowest 20 = .ok (.iload_n 1, 1) := by decide +kernel
theorem dX9_lowest_21 : decode cX9_lowest 21 = .ok (.iaload, 1) := by decide +kernel
theorem dX9_lowest_22 : decode cX9_lowest 22 = .ok (.bipush 24, 2) := by decide +kernel
theorem dX9_lowest_24 : decode cX9_lowest 24 = .ok (.isub, 1) := by decide +kernel
theorem dX9_lowest_25 : decode cX9_lowest 25 = .ok (.istore_n 2, 1) := by decide +kernel
theorem dX9_lowest_26 : decode cX9_lowest 26 = .ok (.iload_n 2, 1) := by decide +kernel
theorem dX9_lowest_27 : decode cX9_lowest 27 = .ok (.aload_n 0, 1) := by decide +kernel
theorem dX9_lowest_28 : decode cX9_lowest 28 = .ok (.getfield 13, 3) := by decide +kernel
theorem dX9_lowest_31 : decode cX9_lowest 31 = .ok (.iload_n 1, 1) := by decide +kernel
theorem dX9_lowest_32 : decode cX9_lowest 32 = .ok (.iaload, 1) := by decide +kernel
theorem dX9_lowest_33 : decode cX9_lowest 33 = .ok (.if_icmp .ge 26, 3) := by decide +kernel
theorem dX9_lowest_36 : decode cX9_lowest 36 = .ok (.aload_n 0, 1) := by decide +kernel
theorem dX9_lowest_37 : decode cX9_lowest 37 = .ok (.getfield 53, 3) := by decide +kernel
theorem dX9_lowest_40 : decode cX9_lowest 40 = .ok (.bipush 32, 2) := by decide +kernel
theorem dX9_lowest_42 : decode cX9_lowest 42 = .ok (.iload_n 1, 1) := by decide +kernel
theorem dX9_lowest_43 : decode cX9_lowest 43 = .ok (.imul, 1) := by decide +kernel
theorem dX9_lowest_44 : decode cX9_lowest 44 = .ok (.iload_n 2, 1) := by decide +kernel
theorem dX9_lowest_45 : decode cX9_lowest 45 = .ok (.bipush 31, 2) := by decide +kernel
theorem dX9_lowest_47 : decode cX9_lowest 47 = .ok (.iand, 1) := by decide +kernel
theorem dX9_lowest_48 : decode cX9_lowest 48 = .ok (.iadd, 1) := by decide +kernel
theorem dX9_lowest_49 : decode cX9_lowest 49 = .ok (.baload, 1) := by decide +kernel
theorem dX9_lowest_50 : decode cX9_lowest 50 = .ok (.ifCond .ne 9, 3) := by decide +kernel
theorem dX9_lowest_53 : decode cX9_lowest 53 = .ok (.iinc 2 1, 3) := by decide +kernel
theorem dX9_lowest_56 : decode cX9_lowest 56 = .ok (.goto (-30), 3) := by decide +kernel
theorem dX9_lowest_59 : decode cX9_lowest 59 = .ok (.iload_n 2, 1) := by decide +kernel
theorem dX9_lowest_60 : decode cX9_lowest 60 = .ok (.ireturn, 1) := by decide +kernel
theorem dX9_await_0 : decode cX9_await 0 = .ok (.sipush 4400, 3) := by decide +kernel
theorem dX9_await_3 : decode cX9_await 3 = .ok (.iload_n 1, 1) := by decide +kernel
theorem dX9_await_4 : decode cX9_await 4 = .ok (.imul, 1) := by decide +kernel
theorem dX9_await_5 : decode cX9_await 5 = .ok (.aload_n 0, 1) := by decide +kernel
theorem dX9_await_6 : decode cX9_await 6 = .ok (.getfield 74, 3) := by decide +kernel
theorem dX9_await_9 : decode cX9_await 9 = .ok (.iload_n 1, 1) := by decide +kernel
theorem dX9_await_10 : decode cX9_await 10 = .ok (.iaload, 1) := by decide +kernel
theorem dX9_await_11 : decode cX9_await 11 = .ok (.iadd, 1) := by decide +kernel
theorem dX9_await_12 : decode cX9_await 12 = .ok (.istore 6, 2) := by decide +kernel
theorem dX9_await_14 : decode cX9_await 14 = .ok (.aload_n 0, 1) := by decide +kernel
theorem dX9_await_15 : decode cX9_await 15 = .ok (.getfield 68, 3) := by decide +kernel
theorem dX9_await_18 : decode cX9_await 18 = .ok (.iload 6, 2) := by decide +kernel
theorem dX9_await_20 : decode cX9_await 20 = .ok (.iload_n 2, 1) := by decide +kernel
theorem dX9_await_21 : decode cX9_await 21 = .ok (.iastore, 1) := by decide +kernel
theorem dX9_await_22 : decode cX9_await 22 = .ok (.aload_n 0, 1) := by decide +kernel
theorem dX9_await_23 : decode cX9_await 23 = .ok (.getfield 71, 3) := by decide +kernel
theorem dX9_await_26 : decode cX9_await 26 = .ok (.iload 6, 2) := by decide +kernel
theorem dX9_await_28 : decode cX9_await 28 = .ok (.iload_n 3, 1) := by decide +kernel
theorem dX9_await_29 : decode cX9_await 29 = .ok (.iastore, 1) := by decide +kernel
theorem dX9_await_30 : decode cX9_await 30 = .ok (.aload_n 0, 1) := by decide +kernel
theorem dX9_await_31 : decode cX9_await 31 = .ok (.getfield 77, 3) := by decide +kernel
theorem dX9_await_34 : decode cX9_await 34 = .ok (.iload 6, 2) := by decide +kernel
theorem dX9_await_36 : decode cX9_await 36 = .ok (.iload 4, 2) := by decide +kernel
theorem dX9_await_38 : decode cX9_await 38 = .ok (.bastore, 1) := by decide +kernel
theorem dX9_await_39 : decode cX9_await 39 = .ok (.aload_n 0, 1) := by decide +kernel
theorem dX9_await_40 : decode cX9_await 40 = .ok (.getfield 80, 3) := by decide +kernel
theorem dX9_await_43 : decode cX9_await 43 = .ok (.iload 6, 2) := by decide +kernel
theorem dX9_await_45 : decode cX9_await 45 = .ok (.iload 5, 2) := by decide +kernel
theorem dX9_await_47 : decode cX9_await 47 = .ok (.bastore, 1) := by decide +kernel
theorem dX9_await_48 : decode cX9_await 48 = .ok (.aload_n 0, 1) := by decide +kernel
theorem dX9_await_49 : decode cX9_await 49 = .ok (.getfield 74, 3) := by decide +kernel
theorem dX9_await_52 : decode cX9_await 52 = .ok (.iload_n 1, 1) := by decide +kernel
theorem dX9_await_53 : decode cX9_await 53 = .ok (.dup2, 1) := by decide +kernel
theorem dX9_await_54 : decode cX9_await 54 = .ok (.iaload, 1) := by decide +kernel
theorem dX9_await_55 : decode cX9_await 55 = .ok (.iconst 1, 1) := by decide +kernel
theorem dX9_await_56 : decode cX9_await 56 = .ok (.iadd, 1) := by decide +kernel
theorem dX9_await_57 : decode cX9_await 57 = .ok (.iastore, 1) := by decide +kernel
theorem dX9_await_58 : decode cX9_await 58 = .ok (.return_, 1) := by decide +kernel
set_option maxRecDepth 20000 in
theorem ggX9_awaitUnit_X9_at : GoodIn wsX9_awaitUnit wsX9_at := goodIn_r _ [8] (by decide +kernel) (by decide +kernel)
set_option maxRecDepth 20000 in
theorem gX9_awaitUnit_X9_at : GoodIn wsX9_awaitUnit (va_wsS RX9 258 yX9_at wsX9_at) := goodIn_app (goodIn_of _ (by decide +kernel)) ggX9_awaitUnit_X9_at
set_option maxRecDepth 20000 in
theorem ggX9_awaitUnit_X9_makeStream : GoodIn wsX9_awaitUnit wsX9_makeStream := goodIn_r _ [12, 13, 3, 14, 15, 16, 7, 17, 18, 19, 20, 21, 22, 23, 24, 25, 26, 27, 28, 29, 39, 40, 41, 42, 43, 44, 45, 46, 47, 48, 49, 50, 51, 52, 53, 54, 55, 56, 57, 58, 59, 60, 61, 62, 63, 64, 65, 66, 67, 68, 69, 70, 71, 72, 73, 74, 75, 76, 77, 78, 79, 80, 81, 82, 83, 84, 85, 86, 87, 88, 89, 90, 91, 92, 93, 94, 95, 96, 97, 98, 99, 100, 101, 102, 103, 104, 105, 106, 107, 108, 109, 110, 111, 112, 113, 114, 115, 116, 117, 118, 119, 120] (by decide +kernel) (by decide +kernel)
set_option maxRecDepth 20000 in
theorem gX9_awaitUnit_X9_makeStream : GoodIn wsX9_awaitUnit (wsV RX9 261 RX9 yX9_makeStream wsX9_makeStream) := goodIn_app (goodIn_of _ (by decide +kernel)) ggX9_awaitUnit_X9_makeStream
set_option maxRecDepth 20000 in
theorem ggX9_awaitUnit_X9_await : GoodIn wsX9_awaitUnit wsX9_await := goodIn_r _ [33, 34, 35, 36, 37, 38, 39, 40, 41, 42, 43, 44, 45, 46, 47, 48, 49, 50, 51, 52, 53, 54, 55, 56, 57, 58, 59, 60, 61, 62, 63, 64, 65, 66, 67, 68, 69, 70, 71, 72, 73, 74, 75, 76, 77, 78, 79, 80, 81, 82, 83, 84, 85, 86, 87, 88, 89, 90, 91, 92, 93, 94, 95, 96, 97, 98, 99, 100, 101, 102, 103, 104, 105, 106, 107, 108, 109, 110, 111, 112, 113, 114, 115, 116, 117, 118, 119, 120] (by decide +kernel) (by decide +kernel)
set_option maxRecDepth 20000 in
theorem gX9_awaitUnit_X9_await : GoodIn wsX9_awaitUnit (wsV RX9 265 RX9 yX9_await wsX9_await) := goodIn_app (goodIn_of _ (by decide +kernel)) ggX9_awaitUnit_X9_await
theorem dX9_awaitUnit_0 : decode cX9_awaitUnit 0 = .ok (.iload_n 1, 1) := by decide +kernel
theorem dX9_awaitUnit_1 : decode cX9_awaitUnit 1 = .ok (.iload_n 2, 1) := by decide +kernel
theorem dX9_awaitUnit_2 : decode cX9_awaitUnit 2 = .ok (.invokestatic 258, 3) := by decide +kernel
theorem dX9_awaitUnit_5 : decode cX9_awaitUnit 5 = .ok (.istore 4, 2) := by decide +kernel
theorem dX9_awaitUnit_7 : decode cX9_awaitUnit 7 = .ok (.bipush 32, 2) := by decide +kernel
theorem dX9_awaitUnit_9 : decode cX9_awaitUnit 9 = .ok (.iload 4, 2) := by decide +kernel
theorem dX9_awaitUnit_11 : decode cX9_awaitUnit 11 = .ok (.imul, 1) := by decide +kernel
theorem dX9_awaitUnit_12 : decode cX9_awaitUnit 12 = .ok (.iload_n 3, 1) := by decide +kernel
theorem dX9_awaitUnit_13 : decode cX9_awaitUnit 13 = .ok (.bipush 31, 2) := by decide +kernel
theorem dX9_awaitUnit_15 : decode cX9_awaitUnit 15 = .ok (.iand, 1) := by decide +kernel
theorem dX9_awaitUnit_16 : decode cX9_awaitUnit 16 = .ok (.iadd, 1) := by decide +kernel
theorem dX9_awaitUnit_17 : decode cX9_awaitUnit 17 = .ok (.istore 5, 2) := by decide +kernel
theorem dX9_awaitUnit_19 : decode cX9_awaitUnit 19 = .ok (.aload_n 0, 1) := by decide +kernel
theorem dX9_awaitUnit_20 : decode cX9_awaitUnit 20 = .ok (.getfield 56, 3) := by decide +kernel
theorem dX9_awaitUnit_23 : decode cX9_awaitUnit 23 = .ok (.iload 5, 2) := by decide +kernel
theorem dX9_awaitUnit_25 : decode cX9_awaitUnit 25 = .ok (.iaload, 1) := by decide +kernel
theorem dX9_awaitUnit_26 : decode cX9_awaitUnit 26 = .ok (.istore 6, 2) := by decide +kernel
theorem dX9_awaitUnit_28 : decode cX9_awaitUnit 28 = .ok (.aload_n 0, 1) := by decide +kernel
theorem dX9_awaitUnit_29 : decode cX9_awaitUnit 29 = .ok (.iload_n 1, 1) := by decide +kernel
theorem dX9_awaitUnit_30 : decode cX9_awaitUnit 30 = .ok (.iload_n 2, 1) := by decide +kernel
theorem dX9_awaitUnit_31 : decode cX9_awaitUnit 31 = .ok (.iload_n 3, 1) := by decide +kernel
theorem dX9_awaitUnit_32 : decode cX9_awaitUnit 32 = .ok (.iload 6, 2) := by decide +kernel
theorem dX9_awaitUnit_34 : decode cX9_awaitUnit 34 = .ok (.invokevirtual 261, 3) := by decide +kernel
theorem dX9_awaitUnit_37 : decode cX9_awaitUnit 37 = .ok (.aload_n 0, 1) := by decide +kernel
theorem dX9_awaitUnit_38 : decode cX9_awaitUnit 38 = .ok (.iload 4, 2) := by decide +kernel
theorem dX9_awaitUnit_40 : decode cX9_awaitUnit 40 = .ok (.sipush 128, 3) := by decide +kernel
theorem dX9_awaitUnit_43 : decode cX9_awaitUnit 43 = .ok (.iload_n 3, 1) := by decide +kernel
theorem dX9_awaitUnit_44 : decode cX9_awaitUnit 44 = .ok (.bipush 63, 2) := by decide +kernel
theorem dX9_awaitUnit_46 : decode cX9_awaitUnit 46 = .ok (.iand, 1) := by decide +kernel
theorem dX9_awaitUnit_47 : decode cX9_awaitUnit 47 = .ok (.iadd, 1) := by decide +kernel
theorem dX9_awaitUnit_48 : decode cX9_awaitUnit 48 = .ok (.iload_n 3, 1) := by decide +kernel
theorem dX9_awaitUnit_49 : decode cX9_awaitUnit 49 = .ok (.iconst 1, 1) := by decide +kernel
theorem dX9_awaitUnit_50 : decode cX9_awaitUnit 50 = .ok (.iconst 0, 1) := by decide +kernel
theorem dX9_awaitUnit_51 : decode cX9_awaitUnit 51 = .ok (.invokevirtual 265, 3) := by decide +kernel
theorem dX9_awaitUnit_54 : decode cX9_awaitUnit 54 = .ok (.iconst 0, 1) := by decide +kernel
theorem dX9_awaitUnit_55 : decode cX9_awaitUnit 55 = .ok (.istore 7, 2) := by decide +kernel
theorem dX9_awaitUnit_57 : decode cX9_awaitUnit 57 = .ok (.iload 7, 2) := by decide +kernel
theorem dX9_awaitUnit_59 : decode cX9_awaitUnit 59 = .ok (.iload 6, 2) := by decide +kernel
theorem dX9_awaitUnit_61 : decode cX9_awaitUnit 61 = .ok (.if_icmp .ge 52, 3) := by decide +kernel
theorem dX9_awaitUnit_64 : decode cX9_awaitUnit 64 = .ok (.aload_n 0, 1) := by decide +kernel
theorem dX9_awaitUnit_65 : decode cX9_awaitUnit 65 = .ok (.iload 4, 2) := by decide +kernel
