theorem dX3_writeReport_40 : decode cX3_writeReport 40 = .ok (.iconst 0, 1) := by decide +kernel
theorem dX3_writeReport_41 : decode cX3_writeReport 41 = .ok (.invokestatic 62, 3) := by decide +kernel
theorem dX3_writeReport_44 : decode cX3_writeReport 44 = .ok (.iconst 2, 1) := by decide +kernel
theorem dX3_writeReport_45 : decode cX3_writeReport 45 = .ok (.iload_n 2, 1) := by decide +kernel
theorem dX3_writeReport_46 : decode cX3_writeReport 46 = .ok (.bipush 7, 2) := by decide +kernel
theorem dX3_writeReport_48 : decode cX3_writeReport 48 = .ok (.iadd, 1) := by decide +kernel
theorem dX3_writeReport_49 : decode cX3_writeReport 49 = .ok (.iconst 3, 1) := by decide +kernel
theorem dX3_writeReport_50 : decode cX3_writeReport 50 = .ok (.ishr, 1) := by decide +kernel
theorem dX3_writeReport_51 : decode cX3_writeReport 51 = .ok (.iadd, 1) := by decide +kernel
theorem dX3_writeReport_52 : decode cX3_writeReport 52 = .ok (.istore_n 3, 1) := by decide +kernel
theorem dX3_writeReport_53 : decode cX3_writeReport 53 = .ok (.iload_n 3, 1) := by decide +kernel
theorem dX3_writeReport_54 : decode cX3_writeReport 54 = .ok (.aload_n 1, 1) := by decide +kernel
theorem dX3_writeReport_55 : decode cX3_writeReport 55 = .ok (.arraylength, 1) := by decide +kernel
theorem dX3_writeReport_56 : decode cX3_writeReport 56 = .ok (.if_icmp .le 5, 3) := by decide +kernel
theorem dX3_writeReport_59 : decode cX3_writeReport 59 = .ok (.iconst 0, 1) := by decide +kernel
theorem dX3_writeReport_60 : decode cX3_writeReport 60 = .ok (.ireturn, 1) := by decide +kernel
theorem dX3_writeReport_61 : decode cX3_writeReport 61 = .ok (.aload_n 1, 1) := by decide +kernel
theorem dX3_writeReport_62 : decode cX3_writeReport 62 = .ok (.iconst 0, 1) := by decide +kernel
theorem dX3_writeReport_63 : decode cX3_writeReport 63 = .ok (.aload_n 0, 1) := by decide +kernel
theorem dX3_writeReport_64 : decode cX3_writeReport 64 = .ok (.getfield 35, 3) := by decide +kernel
theorem dX3_writeReport_67 : decode cX3_writeReport 67 = .ok (.bipush 8, 2) := by decide +kernel
theorem dX3_writeReport_69 : decode cX3_writeReport 69 = .ok (.ishr, 1) := by decide +kernel
theorem dX3_writeReport_70 : decode cX3_writeReport 70 = .ok (.bipush 63, 2) := by decide +kernel
theorem dX3_writeReport_72 : decode cX3_writeReport 72 = .ok (.iand, 1) := by decide +kernel
theorem dX3_writeReport_73 : decode cX3_writeReport 73 = .ok (.iastore, 1) := by decide +kernel
theorem dX3_writeReport_74 : decode cX3_writeReport 74 = .ok (.aload_n 1, 1) := by decide +kernel
theorem dX3_writeReport_75 : decode cX3_writeReport 75 = .ok (.iconst 1, 1) := by decide +kernel
theorem dX3_writeReport_76 : decode cX3_writeReport 76 = .ok (.aload_n 0, 1) := by decide +kernel
theorem dX3_writeReport_77 : decode cX3_writeReport 77 = .ok (.getfield 35, 3) := by decide +kernel
theorem dX3_writeReport_80 : decode cX3_writeReport 80 = .ok (.sipush 255, 3) := by decide +kernel
theorem dX3_writeReport_83 : decode cX3_writeReport 83 = .ok (.iand, 1) := by decide +kernel
theorem dX3_writeReport_84 : decode cX3_writeReport 84 = .ok (.iastore, 1) := by decide +kernel
theorem dX3_writeReport_85 : decode cX3_writeReport 85 = .ok (.iconst 0, 1) := by decide +kernel
theorem dX3_writeReport_86 : decode cX3_writeReport 86 = .ok (.istore 4, 2) := by decide +kernel
theorem dX3_writeReport_88 : decode cX3_writeReport 88 = .ok (.iload 4, 2) := by decide +kernel
theorem dX3_writeReport_90 : decode cX3_writeReport 90 = .ok (.iload_n 2, 1) := by decide +kernel
theorem dX3_writeReport_91 : decode cX3_writeReport 91 = .ok (.if_icmp .ge 49, 3) := by decide +kernel
theorem dX3_writeReport_94 : decode cX3_writeReport 94 = .ok (.aload_n 0, 1) := by decide +kernel
theorem dX3_writeReport_95 : decode cX3_writeReport 95 = .ok (.getfield 18, 3) := by decide +kernel
theorem dX3_writeReport_98 : decode cX3_writeReport 98 = .ok (.aload_n 0, 1) := by decide +kernel
theorem dX3_writeReport_99 : decode cX3_writeReport 99 = .ok (.getfield 35, 3) := by decide +kernel
theorem dX3_writeReport_102 : decode cX3_writeReport 102 = .ok (.iconst 1, 1) := by decide +kernel
theorem dX3_writeReport_103 : decode cX3_writeReport 103 = .ok (.iadd, 1) := by decide +kernel
theorem dX3_writeReport_104 : decode cX3_writeReport 104 = .ok (.iload 4, 2) := by decide +kernel
theorem dX3_writeReport_106 : decode cX3_writeReport 106 = .ok (.iadd, 1) := by decide +kernel
theorem dX3_writeReport_107 : decode cX3_writeReport 107 = .ok (.bipush 31, 2) := by decide +kernel
theorem dX3_writeReport_109 : decode cX3_writeReport 109 = .ok (.iand, 1) := by decide +kernel
theorem dX3_writeReport_110 : decode cX3_writeReport 110 = .ok (.iaload, 1) := by decide +kernel
theorem dX3_writeReport_111 : decode cX3_writeReport 111 = .ok (.ifCond .le 23, 3) := by decide +kernel
theorem dX3_writeReport_114 : decode cX3_writeReport 114 = .ok (.aload_n 1, 1) := by decide +kernel
theorem dX3_writeReport_115 : decode cX3_writeReport 115 = .ok (.iconst 2, 1) := by decide +kernel
theorem dX3_writeReport_116 : decode cX3_writeReport 116 = .ok (.iload 4, 2) := by decide +kernel
theorem dX3_writeReport_118 : decode cX3_writeReport 118 = .ok (.iconst 3, 1) := by decide +kernel
theorem dX3_writeReport_119 : decode cX3_writeReport 119 = .ok (.ishr, 1) := by decide +kernel
theorem dX3_writeReport_120 : decode cX3_writeReport 120 = .ok (.iadd, 1) := by decide +kernel
theorem dX3_writeReport_121 : decode cX3_writeReport 121 = .ok (.dup2, 1) := by decide +kernel
theorem dX3_writeReport_122 : decode cX3_writeReport 122 = .ok (.iaload, 1) := by decide +kernel
theorem dX3_writeReport_123 : decode cX3_writeReport 123 = .ok (.sipush 128, 3) := by decide +kernel
theorem dX3_writeReport_126 : decode cX3_writeReport 126 = .ok (.iload 4, 2) := by decide +kernel
theorem dX3_writeReport_128 : decode cX3_writeReport 128 = .ok (.bipush 7, 2) := by decide +kernel
theorem dX3_writeReport_130 : decode cX3_writeReport 130 = .ok (.iand, 1) := by decide +kernel
theorem dX3_writeReport_131 : decode cX3_writeReport 131 = .ok (.ishr, 1) := by decide +kernel
theorem dX3_writeReport_132 : decode cX3_writeReport 132 = .ok (.ior, 1) := by decide +kernel
theorem dX3_writeReport_133 : decode cX3_writeReport 133 = .ok (.iastore, 1) := by decide +kernel
theorem dX3_writeReport_134 : decode cX3_writeReport 134 = .ok (.iinc 4 1, 3) := by decide +kernel
theorem dX3_writeReport_137 : decode cX3_writeReport 137 = .ok (.goto (-49), 3) := by decide +kernel
theorem dX3_writeReport_140 : decode cX3_writeReport 140 = .ok (.iload_n 3, 1) := by decide +kernel
theorem dX3_writeReport_141 : decode cX3_writeReport 141 = .ok (.ireturn, 1) := by decide +kernel
theorem dX4_init_0 : decode cX4_init 0 = .ok (.aload_n 0, 1) := by decide +kernel
theorem dX4_init_1 : decode cX4_init 1 = .ok (.invokespecial 3, 3) := by decide +kernel
theorem dX4_init_4 : decode cX4_init 4 = .ok (.aload_n 0, 1) := by decide +kernel
theorem dX4_init_5 : decode cX4_init 5 = .ok (.sipush 3840, 3) := by decide +kernel
theorem dX4_init_8 : decode cX4_init 8 = .ok (.newarray .int, 2) := by decide +kernel
theorem dX4_init_10 : decode cX4_init 10 = .ok (.putfield 9, 3) := by decide +kernel
theorem dX4_init_13 : decode cX4_init 13 = .ok (.aload_n 0, 1) := by decide +kernel
theorem dX4_init_14 : decode cX4_init 14 = .ok (.bipush 32, 2) := by decide +kernel
theorem dX4_init_16 : decode cX4_init 16 = .ok (.newarray .int, 2) := by decide +kernel
theorem dX4_init_18 : decode cX4_init 18 = .ok (.putfield 15, 3) := by decide +kernel
theorem dX4_init_21 : decode cX4_init 21 = .ok (.aload_n 0, 1) := by decide +kernel
theorem dX4_init_22 : decode cX4_init 22 = .ok (.bipush 32, 2) := by decide +kernel
theorem dX4_init_24 : decode cX4_init 24 = .ok (.newarray .boolean, 2) := by decide +kernel
theorem dX4_init_26 : decode cX4_init 26 = .ok (.putfield 18, 3) := by decide +kernel
theorem dX4_init_29 : decode cX4_init 29 = .ok (.aload_n 0, 1) := by decide +kernel
theorem dX4_init_30 : decode cX4_init 30 = .ok (.bipush 32, 2) := by decide +kernel
theorem dX4_init_32 : decode cX4_init 32 = .ok (.newarray .int, 2) := by decide +kernel
theorem dX4_init_34 : decode cX4_init 34 = .ok (.putfield 22, 3) := by decide +kernel
theorem dX4_init_37 : decode cX4_init 37 = .ok (.aload_n 0, 1) := by decide +kernel
theorem dX4_init_38 : decode cX4_init 38 = .ok (.bipush 32, 2) := by decide +kernel
theorem dX4_init_40 : decode cX4_init 40 = .ok (.newarray .int, 2) := by decide +kernel
theorem dX4_init_42 : decode cX4_init 42 = .ok (.putfield 25, 3) := by decide +kernel
theorem dX4_init_45 : decode cX4_init 45 = .ok (.aload_n 0, 1) := by decide +kernel
theorem dX4_init_46 : decode cX4_init 46 = .ok (.bipush 121, 2) := by decide +kernel
theorem dX4_init_48 : decode cX4_init 48 = .ok (.newarray .int, 2) := by decide +kernel
theorem dX4_init_50 : decode cX4_init 50 = .ok (.putfield 28, 3) := by decide +kernel
theorem dX4_init_53 : decode cX4_init 53 = .ok (.aload_n 0, 1) := by decide +kernel
theorem dX4_init_54 : decode cX4_init 54 = .ok (.bipush 8, 2) := by decide +kernel
theorem dX4_init_56 : decode cX4_init 56 = .ok (.newarray .int, 2) := by decide +kernel
theorem dX4_init_58 : decode cX4_init 58 = .ok (.putfield 31, 3) := by decide +kernel
theorem dX4_init_61 : decode cX4_init 61 = .ok (.aload_n 0, 1) := by decide +kernel
theorem dX4_init_62 : decode cX4_init 62 = .ok (.iload_n 1, 1) := by decide +kernel
theorem dX4_init_63 : decode cX4_init 63 = .ok (.putfield 34, 3) := by decide +kernel
theorem dX4_init_66 : decode cX4_init 66 = .ok (.return_, 1) := by decide +kernel
set_option maxRecDepth 20000 in
theorem ggX4_takeUnit_X4_addWaiting : GoodIn wsX4_takeUnit wsX4_addWaiting := goodIn_r _ [16, 17, 18, 19, 20, 21, 22, 23, 24, 25, 26, 27, 28, 29, 30, 31, 32, 33] (by decide +kernel) (by decide +kernel)
set_option maxRecDepth 20000 in
theorem gX4_takeUnit_X4_addWaiting : GoodIn wsX4_takeUnit (wsV RX4 53 RX4 yX4_addWaiting wsX4_addWaiting) := goodIn_app (goodIn_of _ (by decide +kernel)) ggX4_takeUnit_X4_addWaiting
theorem dX4_takeUnit_0 : decode cX4_takeUnit 0 = .ok (.aload_n 0, 1) := by decide +kernel
theorem dX4_takeUnit_1 : decode cX4_takeUnit 1 = .ok (.getfield 38, 3) := by decide +kernel
theorem dX4_takeUnit_4 : decode cX4_takeUnit 4 = .ok (.aload_n 0, 1) := by decide +kernel
theorem dX4_takeUnit_5 : decode cX4_takeUnit 5 = .ok (.getfield 41, 3) := by decide +kernel
theorem dX4_takeUnit_8 : decode cX4_takeUnit 8 = .ok (.bipush 24, 2) := by decide +kernel
theorem dX4_takeUnit_10 : decode cX4_takeUnit 10 = .ok (.iadd, 1) := by decide +kernel
theorem dX4_takeUnit_11 : decode cX4_takeUnit 11 = .ok (.if_icmp .ge 20, 3) := by decide +kernel
theorem dX4_takeUnit_14 : decode cX4_takeUnit 14 = .ok (.iload_n 2, 1) := by decide +kernel
theorem dX4_takeUnit_15 : decode cX4_takeUnit 15 = .ok (.iconst 1, 1) := by decide +kernel
theorem dX4_takeUnit_16 : decode cX4_takeUnit 16 = .ok (.if_icmp .lt 15, 3) := by decide +kernel
theorem dX4_takeUnit_19 : decode cX4_takeUnit 19 = .ok (.iload_n 2, 1) := by decide +kernel
theorem dX4_takeUnit_20 : decode cX4_takeUnit 20 = .ok (.bipush 120, 2) := by decide +kernel
theorem dX4_takeUnit_22 : decode cX4_takeUnit 22 = .ok (.if_icmp .gt 9, 3) := by decide +kernel
theorem dX4_takeUnit_25 : decode cX4_takeUnit 25 = .ok (.iload_n 2, 1) := by decide +kernel
theorem dX4_takeUnit_26 : decode cX4_takeUnit 26 = .ok (.aload_n 1, 1) := by decide +kernel
theorem dX4_takeUnit_27 : decode cX4_takeUnit 27 = .ok (.arraylength, 1) := by decide +kernel
theorem dX4_takeUnit_28 : decode cX4_takeUnit 28 = .ok (.if_icmp .le 5, 3) := by decide +kernel
theorem dX4_takeUnit_31 : decode cX4_takeUnit 31 = .ok (.iconst (-1), 1) := by decide +kernel
theorem dX4_takeUnit_32 : decode cX4_takeUnit 32 = .ok (.ireturn, 1) := by decide +kernel
theorem dX4_takeUnit_33 : decode cX4_takeUnit 33 = .ok (.aload_n 0, 1) := by decide +kernel
theorem dX4_takeUnit_34 : decode cX4_takeUnit 34 = .ok (.getfield 38, 3) := by decide +kernel
theorem dX4_takeUnit_37 : decode cX4_takeUnit 37 = .ok (.bipush 31, 2) := by decide +kernel
theorem dX4_takeUnit_39 : decode cX4_takeUnit 39 = .ok (.iand, 1) := by decide +kernel
theorem dX4_takeUnit_40 : decode cX4_takeUnit 40 = .ok (.istore_n 3, 1) := by decide +kernel
theorem dX4_takeUnit_41 : decode cX4_takeUnit 41 = .ok (.aload_n 1, 1) := by decide +kernel
theorem dX4_takeUnit_42 : decode cX4_takeUnit 42 = .ok (.iconst 0, 1) := by decide +kernel
theorem dX4_takeUnit_43 : decode cX4_takeUnit 43 = .ok (.aload_n 0, 1) := by decide +kernel
theorem dX4_takeUnit_44 : decode cX4_takeUnit 44 = .ok (.getfield 9, 3) := by decide +kernel
theorem dX4_takeUnit_47 : decode cX4_takeUnit 47 = .ok (.iload_n 3, 1) := by decide +kernel
theorem dX4_takeUnit_48 : decode cX4_takeUnit 48 = .ok (.bipush 120, 2) := by decide +kernel
theorem dX4_takeUnit_50 : decode cX4_takeUnit 50 = .ok (.imul, 1) := by decide +kernel
theorem dX4_takeUnit_51 : decode cX4_takeUnit 51 = .ok (.iload_n 2, 1) := by decide +kernel
theorem dX4_takeUnit_52 : decode cX4_takeUnit 52 = .ok (.invokestatic 44, 3) := by decide +kernel
theorem dX4_takeUnit_55 : decode cX4_takeUnit 55 = .ok (.aload_n 0, 1) := by decide +kernel
theorem dX4_takeUnit_56 : decode cX4_takeUnit 56 = .ok (.getfield 15, 3) := by decide +kernel
theorem dX4_takeUnit_59 : decode cX4_takeUnit 59 = .ok (.iload_n 3, 1) := by decide +kernel
theorem dX4_takeUnit_60 : decode cX4_takeUnit 60 = .ok (.iload_n 2, 1) := by decide +kernel
theorem dX4_takeUnit_61 : decode cX4_takeUnit 61 = .ok (.iastore, 1) := by decide +kernel
theorem dX4_takeUnit_62 : decode cX4_takeUnit 62 = .ok (.aload_n 0, 1) := by decide +kernel
theorem dX4_takeUnit_63 : decode cX4_takeUnit 63 = .ok (.getfield 18, 3) := by decide +kernel
theorem dX4_takeUnit_66 : decode cX4_takeUnit 66 = .ok (.iload_n 3, 1) := by decide +kernel
theorem dX4_takeUnit_67 : decode cX4_takeUnit 67 = .ok (.iconst 1, 1) := by decide +kernel
theorem dX4_takeUnit_68 : decode cX4_takeUnit 68 = .ok (.bastore, 1) := by decide +kernel
theorem dX4_takeUnit_69 : decode cX4_takeUnit 69 = .ok (.aload_n 0, 1) := by decide +kernel
theorem dX4_takeUnit_70 : decode cX4_takeUnit 70 = .ok (.getfield 22, 3) := by decide +kernel
theorem dX4_takeUnit_73 : decode cX4_takeUnit 73 = .ok (.iload_n 3, 1) := by decide +kernel
theorem dX4_takeUnit_74 : decode cX4_takeUnit 74 = .ok (.iload_n 2, 1) := by decide +kernel
theorem dX4_takeUnit_75 : decode cX4_takeUnit 75 = .ok (.iconst 1, 1) := by decide +kernel
theorem dX4_takeUnit_76 : decode cX4_takeUnit 76 = .ok (.iadd, 1) := by decide +kernel
theorem dX4_takeUnit_77 : decode cX4_takeUnit 77 = .ok (.iastore, 1) := by decide +kernel
theorem dX4_takeUnit_78 : decode cX4_takeUnit 78 = .ok (.aload_n 0, 1) := by decide +kernel
theorem dX4_takeUnit_79 : decode cX4_takeUnit 79 = .ok (.dup, 1) := by decide +kernel
theorem dX4_takeUnit_80 : decode cX4_takeUnit 80 = .ok (.getfield 50, 3) := by decide +kernel
theorem dX4_takeUnit_83 : decode cX4_takeUnit 83 = .ok (.iconst 1, 1) := by decide +kernel
theorem dX4_takeUnit_84 : decode cX4_takeUnit 84 = .ok (.iadd, 1) := by decide +kernel
theorem dX4_takeUnit_85 : decode cX4_takeUnit 85 = .ok (.putfield 50, 3) := by decide +kernel
theorem dX4_takeUnit_88 : decode cX4_takeUnit 88 = .ok (.aload_n 0, 1) := by decide +kernel
theorem dX4_takeUnit_89 : decode cX4_takeUnit 89 = .ok (.aload_n 0, 1) := by decide +kernel
theorem dX4_takeUnit_90 : decode cX4_takeUnit 90 = .ok (.getfield 38, 3) := by decide +kernel
theorem dX4_takeUnit_93 : decode cX4_takeUnit 93 = .ok (.invokevirtual 53, 3) := by decide +kernel
theorem dX4_takeUnit_96 : decode cX4_takeUnit 96 = .ok (.aload_n 0, 1) := by decide +kernel
theorem dX4_takeUnit_97 : decode cX4_takeUnit 97 = .ok (.dup, 1) := by decide +kernel
theorem dX4_takeUnit_98 : decode cX4_takeUnit 98 = .ok (.getfield 38, 3) := by decide +kernel
theorem dX4_takeUnit_101 : decode cX4_takeUnit 101 = .ok (.dup_x1, 1) := by decide +kernel
theorem dX4_takeUnit_102 : decode cX4_takeUnit 102 = .ok (.iconst 1, 1) := by decide +kernel
theorem dX4_takeUnit_103 : decode cX4_takeUnit 103 = .ok (.iadd, 1) := by decide +kernel
theorem dX4_takeUnit_104 : decode cX4_takeUnit 104 = .ok (.putfield 38, 3) := by decide +kernel
theorem dX4_takeUnit_107 : decode cX4_takeUnit 107 = .ok (.ireturn, 1) := by decide +kernel
theorem dX4_addWaiting_0 : decode cX4_addWaiting 0 = .ok (.aload_n 0, 1) := by decide +kernel
theorem dX4_addWaiting_1 : decode cX4_addWaiting 1 = .ok (.getfield 57, 3) := by decide +kernel
theorem dX4_addWaiting_4 : decode cX4_addWaiting 4 = .ok (.aload_n 0, 1) := by decide +kernel
theorem dX4_addWaiting_5 : decode cX4_addWaiting 5 = .ok (.getfield 25, 3) := by decide +kernel
theorem dX4_addWaiting_8 : decode cX4_addWaiting 8 = .ok (.arraylength, 1) := by decide +kernel
theorem dX4_addWaiting_9 : decode cX4_addWaiting 9 = .ok (.if_icmp .ge 20, 3) := by decide +kernel
theorem dX4_addWaiting_12 : decode cX4_addWaiting 12 = .ok (.aload_n 0, 1) := by decide +kernel
theorem dX4_addWaiting_13 : decode cX4_addWaiting 13 = .ok (.getfield 25, 3) := by decide +kernel
theorem dX4_addWaiting_16 : decode cX4_addWaiting 16 = .ok (.aload_n 0, 1) := by decide +kernel
theorem dX4_addWaiting_17 : decode cX4_addWaiting 17 = .ok (.dup, 1) := by decide +kernel
theorem dX4_addWaiting_18 : decode cX4_addWaiting 18 = .ok (.getfield 57, 3) := by decide +kernel
theorem dX4_addWaiting_21 : decode cX4_addWaiting 21 = .ok (.dup_x1, 1) := by decide +kernel
theorem dX4_addWaiting_22 : decode cX4_addWaiting 22 = .ok (.iconst 1, 1) := by decide +kernel
theorem dX4_addWaiting_23 : decode cX4_addWaiting 23 = .ok (.iadd, 1) := by decide +kernel
theorem dX4_addWaiting_24 : decode cX4_addWaiting 24 = .ok (.putfield 57, 3) := by decide +kernel
theorem dX4_addWaiting_27 : decode cX4_addWaiting 27 = .ok (.iload_n 1, 1) := by decide +kernel
theorem dX4_addWaiting_28 : decode cX4_addWaiting 28 = .ok (.iastore, 1) := by decide +kernel
theorem dX4_addWaiting_29 : decode cX4_addWaiting 29 = .ok (.return_, 1) := by decide +kernel
theorem dX4_dropFront_0 : decode cX4_dropFront 0 = .ok (.iconst 1, 1) := by decide +kernel
theorem dX4_dropFront_1 : decode cX4_dropFront 1 = .ok (.istore_n 1, 1) := by decide +kernel
theorem dX4_dropFront_2 : decode cX4_dropFront 2 = .ok (.iload_n 1, 1) := by decide +kernel
theorem dX4_dropFront_3 : decode cX4_dropFront 3 = .ok (.aload_n 0, 1) := by decide +kernel
theorem dX4_dropFront_4 : decode cX4_dropFront 4 = .ok (.getfield 57, 3) := by decide +kernel
theorem dX4_dropFront_7 : decode cX4_dropFront 7 = .ok (.if_icmp .ge 32, 3) := by decide +kernel
theorem dX4_dropFront_10 : decode cX4_dropFront 10 = .ok (.iload_n 1, 1) := by decide +kernel
theorem dX4_dropFront_11 : decode cX4_dropFront 11 = .ok (.aload_n 0, 1) := by decide +kernel
theorem dX4_dropFront_12 : decode cX4_dropFront 12 = .ok (.getfield 25, 3) := by decide +kernel
theorem dX4_dropFront_15 : decode cX4_dropFront 15 = .ok (.arraylength, 1) := by decide +kernel
theorem dX4_dropFront_16 : decode cX4_dropFront 16 = .ok (.if_icmp .ge 23, 3) := by decide +kernel
theorem dX4_dropFront_19 : decode cX4_dropFront 19 = .ok (.aload_n 0, 1) := by decide +kernel
theorem dX4_dropFront_20 : decode cX4_dropFront 20 = .ok (.getfield 25, 3) := by decide +kernel
theorem dX4_dropFront_23 : decode cX4_dropFront 23 = .ok (.iload_n 1, 1) := by decide +kernel
theorem dX4_dropFront_24 : decode cX4_dropFront 24 = .ok (.iconst 1, 1) := by decide +kernel
theorem dX4_dropFront_25 : decode cX4_dropFront 25 = .ok (.isub, 1) := by decide +kernel
theorem dX4_dropFront_26 : decode cX4_dropFront 26 = .ok (.aload_n 0, 1) := by decide +kernel
theorem dX4_dropFront_27 : decode cX4_dropFront 27 = .ok (.getfield 25, 3) := by decide +kernel
theorem dX4_dropFront_30 : decode cX4_dropFront 30 = .ok (.iload_n 1, 1) := by decide +kernel
theorem dX4_dropFront_31 : decode cX4_dropFront 31 = .ok (.iaload, 1) := by decide +kernel
theorem dX4_dropFront_32 : decode cX4_dropFront 32 = .ok (.iastore, 1) := by decide +kernel
theorem dX4_dropFront_33 : decode cX4_dropFront 33 = .ok (.iinc 1 1, 3) := by decide +kernel
theorem dX4_dropFront_36 : decode cX4_dropFront 36 = .ok (.goto (-34), 3) := by decide +kernel
theorem dX4_dropFront_39 : decode cX4_dropFront 39 = .ok (.aload_n 0, 1) := by decide +kernel
theorem dX4_dropFront_40 : decode cX4_dropFront 40 = .ok (.aload_n 0, 1) := by decide +kernel
theorem dX4_dropFront_41 : decode cX4_dropFront 41 = .ok (.getfield 57, 3) := by decide +kernel
theorem dX4_dropFront_44 : decode cX4_dropFront 44 = .ok (.iconst 1, 1) := by decide +kernel
theorem dX4_dropFront_45 : decode cX4_dropFront 45 = .ok (.isub, 1) := by decide +kernel
theorem dX4_dropFront_46 : decode cX4_dropFront 46 = .ok (.iconst 0, 1) := by decide +kernel
theorem dX4_dropFront_47 : decode cX4_dropFront 47 = .ok (.invokestatic 60, 3) := by decide +kernel
theorem dX4_dropFront_50 : decode cX4_dropFront 50 = .ok (.putfield 57, 3) := by decide +kernel
theorem dX4_dropFront_53 : decode cX4_dropFront 53 = .ok (.aload_n 0, 1) := by decide +kernel
theorem dX4_dropFront_54 : decode cX4_dropFront 54 = .ok (.iconst 0, 1) := by decide +kernel
theorem dX4_dropFront_55 : decode cX4_dropFront 55 = .ok (.putfield 66, 3) := by decide +kernel
theorem dX4_dropFront_58 : decode cX4_dropFront 58 = .ok (.return_, 1) := by decide +kernel
theorem dX4_packetSize_0 : decode cX4_packetSize 0 = .ok (.iload_n 1, 1) := by decide +kernel
theorem dX4_packetSize_1 : decode cX4_packetSize 1 = .ok (.iconst (-1), 1) := by decide +kernel
theorem dX4_packetSize_2 : decode cX4_packetSize 2 = .ok (.if_icmp .ne 10, 3) := by decide +kernel
theorem dX4_packetSize_5 : decode cX4_packetSize 5 = .ok (.aload_n 0, 1) := by decide +kernel
theorem dX4_packetSize_6 : decode cX4_packetSize 6 = .ok (.getfield 69, 3) := by decide +kernel
theorem dX4_packetSize_9 : decode cX4_packetSize 9 = .ok (.goto 14, 3) := by decide +kernel
theorem dX4_packetSize_12 : decode cX4_packetSize 12 = .ok (.aload_n 0, 1) := by decide +kernel
theorem dX4_packetSize_13 : decode cX4_packetSize 13 = .ok (.getfield 15, 3) := by decide +kernel
theorem dX4_packetSize_16 : decode cX4_packetSize 16 = .ok (.iload_n 1, 1) := by decide +kernel
theorem dX4_packetSize_17 : decode cX4_packetSize 17 = .ok (.bipush 31, 2) := by decide +kernel
theorem dX4_packetSize_19 : decode cX4_packetSize 19 = .ok (.iand, 1) := by decide +kernel
theorem dX4_packetSize_20 : decode cX4_packetSize 20 = .ok (.iaload, 1) := by decide +kernel
theorem dX4_packetSize_21 : decode cX4_packetSize 21 = .ok (.iconst 1, 1) := by decide +kernel
theorem dX4_packetSize_22 : decode cX4_packetSize 22 = .ok (.iadd, 1) := by decide +kernel
theorem dX4_packetSize_23 : decode cX4_packetSize 23 = .ok (.ireturn, 1) := by decide +kernel
set_option maxRecDepth 20000 in
theorem ggX4_waitingBytes_X4_packetSize : GoodIn wsX4_waitingBytes wsX4_packetSize := goodIn_r _ [9, 10, 11, 12, 13, 14, 15, 16, 17, 18, 19, 20, 21, 22, 23, 24, 25, 26] (by decide +kernel) (by decide +kernel)
set_option maxRecDepth 20000 in
theorem gX4_waitingBytes_X4_packetSize : GoodIn wsX4_waitingBytes (wsV RX4 75 RX4 yX4_packetSize wsX4_packetSize) := goodIn_app (goodIn_of _ (by decide +kernel)) ggX4_waitingBytes_X4_packetSize
theorem dX4_waitingBytes_0 : decode cX4_waitingBytes 0 = .ok (.iconst 0, 1) := by decide +kernel
theorem dX4_waitingBytes_1 : decode cX4_waitingBytes 1 = .ok (.istore_n 1, 1) := by decide +kernel
theorem dX4_waitingBytes_2 : decode cX4_waitingBytes 2 = .ok (.iconst 0, 1) := by decide +kernel
theorem dX4_waitingBytes_3 : decode cX4_waitingBytes 3 = .ok (.istore_n 2, 1) := by decide +kernel
theorem dX4_waitingBytes_4 : decode cX4_waitingBytes 4 = .ok (.iload_n 2, 1) := by decide +kernel
theorem dX4_waitingBytes_5 : decode cX4_waitingBytes 5 = .ok (.aload_n 0, 1) := by decide +kernel
theorem dX4_waitingBytes_6 : decode cX4_waitingBytes 6 = .ok (.getfield 57, 3) := by decide +kernel
theorem dX4_waitingBytes_9 : decode cX4_waitingBytes 9 = .ok (.if_icmp .ge 45, 3) := by decide +kernel
theorem dX4_waitingBytes_12 : decode cX4_waitingBytes 12 = .ok (.iload_n 1, 1) := by decide +kernel
theorem dX4_waitingBytes_13 : decode cX4_waitingBytes 13 = .ok (.iload_n 2, 1) := by decide +kernel
theorem dX4_waitingBytes_14 : decode cX4_waitingBytes 14 = .ok (.ifCond .ne 22, 3) := by decide +kernel
theorem dX4_waitingBytes_17 : decode cX4_waitingBytes 17 = .ok (.aload_n 0, 1) := by decide +kernel
theorem dX4_waitingBytes_18 : decode cX4_waitingBytes 18 = .ok (.getfield 66, 3) := by decide +kernel
theorem dX4_waitingBytes_21 : decode cX4_waitingBytes 21 = .ok (.ifCond .le 15, 3) := by decide +kernel
theorem dX4_waitingBytes_24 : decode cX4_waitingBytes 24 = .ok (.aload_n 0, 1) := by decide +kernel
theorem dX4_waitingBytes_25 : decode cX4_waitingBytes 25 = .ok (.getfield 72, 3) := by decide +kernel
theorem dX4_waitingBytes_28 : decode cX4_waitingBytes 28 = .ok (.aload_n 0, 1) := by decide +kernel
theorem dX4_waitingBytes_29 : decode cX4_waitingBytes 29 = .ok (.getfield 66, 3) := by decide +kernel
theorem dX4_waitingBytes_32 : decode cX4_waitingBytes 32 = .ok (.isub, 1) := by decide +kernel
theorem dX4_waitingBytes_33 : decode cX4_waitingBytes 33 = .ok (.goto 13, 3) := by decide +kernel
theorem dX4_waitingBytes_36 : decode cX4_waitingBytes 36 = .ok (.aload_n 0, 1) := by decide +kernel
theorem dX4_waitingBytes_37 : decode cX4_waitingBytes 37 = .ok (.aload_n 0, 1) := by decide +kernel
theorem dX4_waitingBytes_38 : decode cX4_waitingBytes 38 = .ok (.getfield 25, 3) := by decide +kernel
theorem dX4_waitingBytes_41 : decode cX4_waitingBytes 41 = .ok (.iload_n 2, 1) := by decide +kernel
theorem dX4_waitingBytes_42 : decode cX4_waitingBytes 42 = .ok (.iaload, 1) := by decide +kernel
theorem dX4_waitingBytes_43 : decode cX4_waitingBytes 43 = .ok (.invokevirtual 75, 3) := by decide +kernel
theorem dX4_waitingBytes_46 : decode cX4_waitingBytes 46 = .ok (.iadd, 1) := by decide +kernel
theorem dX4_waitingBytes_47 : decode cX4_waitingBytes 47 = .ok (.istore_n 1, 1) := by decide +kernel
theorem dX4_waitingBytes_48 : decode cX4_waitingBytes 48 = .ok (.iinc 2 1, 3) := by decide +kernel
theorem dX4_waitingBytes_51 : decode cX4_waitingBytes 51 = .ok (.goto (-47), 3) := by decide +kernel
theorem dX4_waitingBytes_54 : decode cX4_waitingBytes 54 = .ok (.iload_n 1, 1) := by decide +kernel
theorem dX4_waitingBytes_55 : decode cX4_waitingBytes 55 = .ok (.ireturn, 1) := by decide +kernel
set_option maxRecDepth 20000 in
theorem ggX4_openFront_X4_packetSize : GoodIn wsX4_openFront wsX4_packetSize := goodIn_r _ [17, 5, 11, 38, 39, 40, 41, 42, 43, 44, 45, 46, 47, 48, 49, 50, 51, 52] (by decide +kernel) (by decide +kernel)
set_option maxRecDepth 20000 in
theorem gX4_openFront_X4_packetSize : GoodIn wsX4_openFront (wsV RX4 75 RX4 yX4_packetSize wsX4_packetSize) := goodIn_app (goodIn_of _ (by decide +kernel)) ggX4_openFront_X4_packetSize
set_option maxRecDepth 20000 in
theorem ggX4_openFront_X2_mask : GoodIn wsX4_openFront wsX2_mask := goodIn_r _ [22, 23, 24, 25, 26, 21, 27, 28, 29, 30, 31, 32, 33, 34, 35, 36, 37, 53, 54, 55] (by decide +kernel) (by decide +kernel)
set_option maxRecDepth 20000 in
theorem gX4_openFront_X2_mask : GoodIn wsX4_openFront (wsV RX4 79 RX2 yX2_mask wsX2_mask) := goodIn_app (goodIn_of _ (by decide +kernel)) ggX4_openFront_X2_mask
theorem dX4_openFront_0 : decode cX4_openFront 0 = .ok (.aload_n 0, 1) := by decide +kernel
theorem dX4_openFront_1 : decode cX4_openFront 1 = .ok (.getfield 25, 3) := by decide +kernel
theorem dX4_openFront_4 : decode cX4_openFront 4 = .ok (.iconst 0, 1) := by decide +kernel
theorem dX4_openFront_5 : decode cX4_openFront 5 = .ok (.iaload, 1) := by decide +kernel
theorem dX4_openFront_6 : decode cX4_openFront 6 = .ok (.istore_n 2, 1) := by decide +kernel
theorem dX4_openFront_7 : decode cX4_openFront 7 = .ok (.aload_n 0, 1) := by decide +kernel
theorem dX4_openFront_8 : decode cX4_openFront 8 = .ok (.aload_n 0, 1) := by decide +kernel
theorem dX4_openFront_9 : decode cX4_openFront 9 = .ok (.iload_n 2, 1) := by decide +kernel
theorem dX4_openFront_10 : decode cX4_openFront 10 = .ok (.invokevirtual 75, 3) := by decide +kernel
theorem dX4_openFront_13 : decode cX4_openFront 13 = .ok (.putfield 72, 3) := by decide +kernel
theorem dX4_openFront_16 : decode cX4_openFront 16 = .ok (.iload_n 2, 1) := by decide +kernel
theorem dX4_openFront_17 : decode cX4_openFront 17 = .ok (.iconst (-1), 1) := by decide +kernel
theorem dX4_openFront_18 : decode cX4_openFront 18 = .ok (.if_icmp .ne 21, 3) := by decide +kernel
theorem dX4_openFront_21 : decode cX4_openFront 21 = .ok (.aload_n 0, 1) := by decide +kernel
theorem dX4_openFront_22 : decode cX4_openFront 22 = .ok (.getfield 31, 3) := by decide +kernel
theorem dX4_openFront_25 : decode cX4_openFront 25 = .ok (.iconst 0, 1) := by decide +kernel
theorem dX4_openFront_26 : decode cX4_openFront 26 = .ok (.aload_n 0, 1) := by decide +kernel
theorem dX4_openFront_27 : decode cX4_openFront 27 = .ok (.getfield 28, 3) := by decide +kernel
theorem dX4_openFront_30 : decode cX4_openFront 30 = .ok (.iconst 0, 1) := by decide +kernel
theorem dX4_openFront_31 : decode cX4_openFront 31 = .ok (.aload_n 0, 1) := by decide +kernel
theorem dX4_openFront_32 : decode cX4_openFront 32 = .ok (.getfield 69, 3) := by decide +kernel
theorem dX4_openFront_35 : decode cX4_openFront 35 = .ok (.invokestatic 44, 3) := by decide +kernel
theorem dX4_openFront_38 : decode cX4_openFront 38 = .ok (.return_, 1) := by decide +kernel
theorem dX4_openFront_39 : decode cX4_openFront 39 = .ok (.aload_n 0, 1) := by decide +kernel
theorem dX4_openFront_40 : decode cX4_openFront 40 = .ok (.getfield 28, 3) := by decide +kernel
theorem dX4_openFront_43 : decode cX4_openFront 43 = .ok (.iconst 0, 1) := by decide +kernel
theorem dX4_openFront_44 : decode cX4_openFront 44 = .ok (.sipush 128, 3) := by decide +kernel
theorem dX4_openFront_47 : decode cX4_openFront 47 = .ok (.iload_n 2, 1) := by decide +kernel
theorem dX4_openFront_48 : decode cX4_openFront 48 = .ok (.bipush 63, 2) := by decide +kernel
theorem dX4_openFront_50 : decode cX4_openFront 50 = .ok (.iand, 1) := by decide +kernel
theorem dX4_openFront_51 : decode cX4_openFront 51 = .ok (.iadd, 1) := by decide +kernel
theorem dX4_openFront_52 : decode cX4_openFront 52 = .ok (.iastore, 1) := by decide +kernel
theorem dX4_openFront_53 : decode cX4_openFront 53 = .ok (.iload_n 2, 1) := by decide +kernel
theorem dX4_openFront_54 : decode cX4_openFront 54 = .ok (.bipush 31, 2) := by decide +kernel
theorem dX4_openFront_56 : decode cX4_openFront 56 = .ok (.iand, 1) := by decide +kernel
theorem dX4_openFront_57 : decode cX4_openFront 57 = .ok (.istore_n 3, 1) := by decide +kernel
theorem dX4_openFront_58 : decode cX4_openFront 58 = .ok (.aload_n 0, 1) := by decide +kernel
theorem dX4_openFront_59 : decode cX4_openFront 59 = .ok (.getfield 9, 3) := by decide +kernel
theorem dX4_openFront_62 : decode cX4_openFront 62 = .ok (.iload_n 3, 1) := by decide +kernel
theorem dX4_openFront_63 : decode cX4_openFront 63 = .ok (.bipush 120, 2) := by decide +kernel
theorem dX4_openFront_65 : decode cX4_openFront 65 = .ok (.imul, 1) := by decide +kernel
theorem dX4_openFront_66 : decode cX4_openFront 66 = .ok (.aload_n 0, 1) := by decide +kernel
theorem dX4_openFront_67 : decode cX4_openFront 67 = .ok (.getfield 28, 3) := by decide +kernel
theorem dX4_openFront_70 : decode cX4_openFront 70 = .ok (.iconst 1, 1) := by decide +kernel
theorem dX4_openFront_71 : decode cX4_openFront 71 = .ok (.aload_n 0, 1) := by decide +kernel
theorem dX4_openFront_72 : decode cX4_openFront 72 = .ok (.getfield 15, 3) := by decide +kernel
theorem dX4_openFront_75 : decode cX4_openFront 75 = .ok (.iload_n 3, 1) := by decide +kernel
theorem dX4_openFront_76 : decode cX4_openFront 76 = .ok (.iaload, 1) := by decide +kernel
theorem dX4_openFront_77 : decode cX4_openFront 77 = .ok (.invokestatic 44, 3) := by decide +kernel
theorem dX4_openFront_80 : decode cX4_openFront 80 = .ok (.aload_n 1, 1) := by decide +kernel
theorem dX4_openFront_81 : decode cX4_openFront 81 = .ok (.aload_n 0, 1) := by decide +kernel
theorem dX4_openFront_82 : decode cX4_openFront 82 = .ok (.getfield 28, 3) := by decide +kernel
theorem dX4_openFront_85 : decode cX4_openFront 85 = .ok (.aload_n 0, 1) := by decide +kernel
theorem dX4_openFront_86 : decode cX4_openFront 86 = .ok (.getfield 72, 3) := by decide +kernel
theorem dX4_openFront_89 : decode cX4_openFront 89 = .ok (.iload_n 2, 1) := by decide +kernel
theorem dX4_openFront_90 : decode cX4_openFront 90 = .ok (.aload_n 0, 1) := by decide +kernel
theorem dX4_openFront_91 : decode cX4_openFront 91 = .ok (.getfield 34, 3) := by decide +kernel
theorem dX4_openFront_94 : decode cX4_openFront 94 = .ok (.invokevirtual 79, 3) := by decide +kernel
theorem dX4_openFront_97 : decode cX4_openFront 97 = .ok (.return_, 1) := by decide +kernel
set_option maxRecDepth 20000 in
theorem ggX4_takeCell_X4_dropFront : GoodIn wsX4_takeCell wsX4_dropFront := goodIn_r _ [9, 10, 3, 11, 12, 13, 14, 1, 15, 16, 17, 18, 19, 20, 21, 22, 23, 24, 25, 26, 27, 28, 29] (by decide +kernel) (by decide +kernel)
set_option maxRecDepth 20000 in
theorem gX4_takeCell_X4_dropFront : GoodIn wsX4_takeCell (wsV RX4 85 RX4 yX4_dropFront wsX4_dropFront) := goodIn_app (goodIn_of _ (by decide +kernel)) ggX4_takeCell_X4_dropFront
theorem dX4_takeCell_0 : decode cX4_takeCell 0 = .ok (.aload_n 0, 1) := by decide +kernel
theorem dX4_takeCell_1 : decode cX4_takeCell 1 = .ok (.getfield 66, 3) := by decide +kernel
theorem dX4_takeCell_4 : decode cX4_takeCell 4 = .ok (.ifCond .lt 15, 3) := by decide +kernel
theorem dX4_takeCell_7 : decode cX4_takeCell 7 = .ok (.aload_n 0, 1) := by decide +kernel
theorem dX4_takeCell_8 : decode cX4_takeCell 8 = .ok (.getfield 66, 3) := by decide +kernel
theorem dX4_takeCell_11 : decode cX4_takeCell 11 = .ok (.aload_n 0, 1) := by decide +kernel
theorem dX4_takeCell_12 : decode cX4_takeCell 12 = .ok (.getfield 28, 3) := by decide +kernel
theorem dX4_takeCell_15 : decode cX4_takeCell 15 = .ok (.arraylength, 1) := by decide +kernel
theorem dX4_takeCell_16 : decode cX4_takeCell 16 = .ok (.if_icmp .lt 5, 3) := by decide +kernel
theorem dX4_takeCell_19 : decode cX4_takeCell 19 = .ok (.iconst 0, 1) := by decide +kernel
theorem dX4_takeCell_20 : decode cX4_takeCell 20 = .ok (.ireturn, 1) := by decide +kernel
theorem dX4_takeCell_21 : decode cX4_takeCell 21 = .ok (.aload_n 0, 1) := by decide +kernel
theorem dX4_takeCell_22 : decode cX4_takeCell 22 = .ok (.getfield 28, 3) := by decide +kernel
theorem dX4_takeCell_25 : decode cX4_takeCell 25 = .ok (.aload_n 0, 1) := by decide +kernel
theorem dX4_takeCell_26 : decode cX4_takeCell 26 = .ok (.getfield 66, 3) := by decide +kernel
theorem dX4_takeCell_29 : decode cX4_takeCell 29 = .ok (.iaload, 1) := by decide +kernel
theorem dX4_takeCell_30 : decode cX4_takeCell 30 = .ok (.aload_n 0, 1) := by decide +kernel
theorem dX4_takeCell_31 : decode cX4_takeCell 31 = .ok (.getfield 25, 3) := by decide +kernel
theorem dX4_takeCell_34 : decode cX4_takeCell 34 = .ok (.iconst 0, 1) := by decide +kernel
theorem dX4_takeCell_35 : decode cX4_takeCell 35 = .ok (.iaload, 1) := by decide +kernel
theorem dX4_takeCell_36 : decode cX4_takeCell 36 = .ok (.iconst 1, 1) := by decide +kernel
theorem dX4_takeCell_37 : decode cX4_takeCell 37 = .ok (.iadd, 1) := by decide +kernel
theorem dX4_takeCell_38 : decode cX4_takeCell 38 = .ok (.bipush 11, 2) := by decide +kernel
theorem dX4_takeCell_40 : decode cX4_takeCell 40 = .ok (.ishl, 1) := by decide +kernel
theorem dX4_takeCell_41 : decode cX4_takeCell 41 = .ok (.iadd, 1) := by decide +kernel
theorem dX4_takeCell_42 : decode cX4_takeCell 42 = .ok (.istore_n 1, 1) := by decide +kernel
theorem dX4_takeCell_43 : decode cX4_takeCell 43 = .ok (.iload_n 1, 1) := by decide +kernel
theorem dX4_takeCell_44 : decode cX4_takeCell 44 = .ok (.aload_n 0, 1) := by decide +kernel
theorem dX4_takeCell_45 : decode cX4_takeCell 45 = .ok (.getfield 66, 3) := by decide +kernel
theorem dX4_takeCell_48 : decode cX4_takeCell 48 = .ok (.ifCond .ne 9, 3) := by decide +kernel
theorem dX4_takeCell_51 : decode cX4_takeCell 51 = .ok (.sipush 256, 3) := by decide +kernel
theorem dX4_takeCell_54 : decode cX4_takeCell 54 = .ok (.goto 4, 3) := by decide +kernel
theorem dX4_takeCell_57 : decode cX4_takeCell 57 = .ok (.iconst 0, 1) := by decide +kernel
theorem dX4_takeCell_58 : decode cX4_takeCell 58 = .ok (.iadd, 1) := by decide +kernel
theorem dX4_takeCell_59 : decode cX4_takeCell 59 = .ok (.istore_n 1, 1) := by decide +kernel
theorem dX4_takeCell_60 : decode cX4_takeCell 60 = .ok (.aload_n 0, 1) := by decide +kernel
theorem dX4_takeCell_61 : decode cX4_takeCell 61 = .ok (.dup, 1) := by decide +kernel
theorem dX4_takeCell_62 : decode cX4_takeCell 62 = .ok (.getfield 66, 3) := by decide +kernel
theorem dX4_takeCell_65 : decode cX4_takeCell 65 = .ok (.iconst 1, 1) := by decide +kernel
theorem dX4_takeCell_66 : decode cX4_takeCell 66 = .ok (.iadd, 1) := by decide +kernel
theorem dX4_takeCell_67 : decode cX4_takeCell 67 = .ok (.putfield 66, 3) := by decide +kernel
theorem dX4_takeCell_70 : decode cX4_takeCell 70 = .ok (.aload_n 0, 1) := by decide +kernel
theorem dX4_takeCell_71 : decode cX4_takeCell 71 = .ok (.getfield 66, 3) := by decide +kernel
theorem dX4_takeCell_74 : decode cX4_takeCell 74 = .ok (.aload_n 0, 1) := by decide +kernel
theorem dX4_takeCell_75 : decode cX4_takeCell 75 = .ok (.getfield 72, 3) := by decide +kernel
theorem dX4_takeCell_78 : decode cX4_takeCell 78 = .ok (.if_icmp .lt 13, 3) := by decide +kernel
theorem dX4_takeCell_81 : decode cX4_takeCell 81 = .ok (.iinc 1 512, 6) := by decide +kernel
theorem dX4_takeCell_87 : decode cX4_takeCell 87 = .ok (.aload_n 0, 1) := by decide +kernel
theorem dX4_takeCell_88 : decode cX4_takeCell 88 = .ok (.invokevirtual 85, 3) := by decide +kernel
theorem dX4_takeCell_91 : decode cX4_takeCell 91 = .ok (.iload_n 1, 1) := by decide +kernel
theorem dX4_takeCell_92 : decode cX4_takeCell 92 = .ok (.ireturn, 1) := by decide +kernel
theorem dX4_keeps_0 : decode cX4_keeps 0 = .ok (.iload_n 1, 1) := by decide +kernel
theorem dX4_keeps_1 : decode cX4_keeps 1 = .ok (.aload_n 0, 1) := by decide +kernel
theorem dX4_keeps_2 : decode cX4_keeps 2 = .ok (.getfield 41, 3) := by decide +kernel
theorem dX4_keeps_5 : decode cX4_keeps 5 = .ok (.if_icmp .lt 27, 3) := by decide +kernel
theorem dX4_keeps_8 : decode cX4_keeps 8 = .ok (.iload_n 1, 1) := by decide +kernel
theorem dX4_keeps_9 : decode cX4_keeps 9 = .ok (.aload_n 0, 1) := by decide +kernel
theorem dX4_keeps_10 : decode cX4_keeps 10 = .ok (.getfield 38, 3) := by decide +kernel
theorem dX4_keeps_13 : decode cX4_keeps 13 = .ok (.if_icmp .ge 19, 3) := by decide +kernel
theorem dX4_keeps_16 : decode cX4_keeps 16 = .ok (.aload_n 0, 1) := by decide +kernel
theorem dX4_keeps_17 : decode cX4_keeps 17 = .ok (.getfield 18, 3) := by decide +kernel
theorem dX4_keeps_20 : decode cX4_keeps 20 = .ok (.iload_n 1, 1) := by decide +kernel
theorem dX4_keeps_21 : decode cX4_keeps 21 = .ok (.bipush 31, 2) := by decide +kernel
theorem dX4_keeps_23 : decode cX4_keeps 23 = .ok (.iand, 1) := by decide +kernel
theorem dX4_keeps_24 : decode cX4_keeps 24 = .ok (.baload, 1) := by decide +kernel
theorem dX4_keeps_25 : decode cX4_keeps 25 = .ok (.ifCond .eq 7, 3) := by decide +kernel
theorem dX4_keeps_28 : decode cX4_keeps 28 = .ok (.iconst 1, 1) := by decide +kernel
theorem dX4_keeps_29 : decode cX4_keeps 29 = .ok (.goto 4, 3) := by decide +kernel
theorem dX4_keeps_32 : decode cX4_keeps 32 = .ok (.iconst 0, 1) := by decide +kernel
theorem dX4_keeps_33 : decode cX4_keeps 33 = .ok (.ireturn, 1) := by decide +kernel
set_option maxRecDepth 20000 in
theorem ggX4_confirmByte_X4_keeps : GoodIn wsX4_confirmByte wsX4_keeps := goodIn_r _ [6, 7, 8, 9, 18, 19, 20, 21, 22, 23, 24, 25, 26, 27, 28, 29, 30, 31, 32] (by decide +kernel) (by decide +kernel)
set_option maxRecDepth 20000 in
theorem gX4_confirmByte_X4_keeps : GoodIn wsX4_confirmByte (wsV RX4 88 RX4 yX4_keeps wsX4_keeps) := goodIn_app (goodIn_of _ (by decide +kernel)) ggX4_confirmByte_X4_keeps
set_option maxRecDepth 20000 in
theorem ggX4_confirmByte_X4_confirmUnit : GoodIn wsX4_confirmByte wsX4_confirmUnit := goodIn_r _ [13, 9, 14, 15, 16, 17, 7, 8, 18, 19, 20, 21, 22, 23, 24, 25, 26, 27, 28, 29, 30, 31, 32] (by decide +kernel) (by decide +kernel)
set_option maxRecDepth 20000 in
theorem gX4_confirmByte_X4_confirmUnit : GoodIn wsX4_confirmByte (wsV RX4 92 RX4 yX4_confirmUnit wsX4_confirmUnit) := goodIn_app (goodIn_of _ (by decide +kernel)) ggX4_confirmByte_X4_confirmUnit
theorem dX4_confirmByte_0 : decode cX4_confirmByte 0 = .ok (.iload_n 1, 1) := by decide +kernel
theorem dX4_confirmByte_1 : decode cX4_confirmByte 1 = .ok (.bipush 11, 2) := by decide +kernel
theorem dX4_confirmByte_3 : decode cX4_confirmByte 3 = .ok (.ishr, 1) := by decide +kernel
theorem dX4_confirmByte_4 : decode cX4_confirmByte 4 = .ok (.iconst 1, 1) := by decide +kernel
theorem dX4_confirmByte_5 : decode cX4_confirmByte 5 = .ok (.isub, 1) := by decide +kernel
theorem dX4_confirmByte_6 : decode cX4_confirmByte 6 = .ok (.istore_n 2, 1) := by decide +kernel
theorem dX4_confirmByte_7 : decode cX4_confirmByte 7 = .ok (.aload_n 0, 1) := by decide +kernel
theorem dX4_confirmByte_8 : decode cX4_confirmByte 8 = .ok (.iload_n 2, 1) := by decide +kernel
theorem dX4_confirmByte_9 : decode cX4_confirmByte 9 = .ok (.invokevirtual 88, 3) := by decide +kernel
theorem dX4_confirmByte_12 : decode cX4_confirmByte 12 = .ok (.ifCond .eq 32, 3) := by decide +kernel
theorem dX4_confirmByte_15 : decode cX4_confirmByte 15 = .ok (.iload_n 2, 1) := by decide +kernel
theorem dX4_confirmByte_16 : decode cX4_confirmByte 16 = .ok (.bipush 31, 2) := by decide +kernel
theorem dX4_confirmByte_18 : decode cX4_confirmByte 18 = .ok (.iand, 1) := by decide +kernel
theorem dX4_confirmByte_19 : decode cX4_confirmByte 19 = .ok (.istore_n 3, 1) := by decide +kernel
theorem dX4_confirmByte_20 : decode cX4_confirmByte 20 = .ok (.aload_n 0, 1) := by decide +kernel
theorem dX4_confirmByte_21 : decode cX4_confirmByte 21 = .ok (.getfield 22, 3) := by decide +kernel
theorem dX4_confirmByte_24 : decode cX4_confirmByte 24 = .ok (.iload_n 3, 1) := by decide +kernel
theorem dX4_confirmByte_25 : decode cX4_confirmByte 25 = .ok (.dup2, 1) := by decide +kernel
theorem dX4_confirmByte_26 : decode cX4_confirmByte 26 = .ok (.iaload, 1) := by decide +kernel
theorem dX4_confirmByte_27 : decode cX4_confirmByte 27 = .ok (.iconst 1, 1) := by decide +kernel
theorem dX4_confirmByte_28 : decode cX4_confirmByte 28 = .ok (.isub, 1) := by decide +kernel
theorem dX4_confirmByte_29 : decode cX4_confirmByte 29 = .ok (.iastore, 1) := by decide +kernel
theorem dX4_confirmByte_30 : decode cX4_confirmByte 30 = .ok (.aload_n 0, 1) := by decide +kernel
theorem dX4_confirmByte_31 : decode cX4_confirmByte 31 = .ok (.getfield 22, 3) := by decide +kernel
theorem dX4_confirmByte_34 : decode cX4_confirmByte 34 = .ok (.iload_n 3, 1) := by decide +kernel
theorem dX4_confirmByte_35 : decode cX4_confirmByte 35 = .ok (.iaload, 1) := by decide +kernel
theorem dX4_confirmByte_36 : decode cX4_confirmByte 36 = .ok (.ifCond .ne 8, 3) := by decide +kernel
theorem dX4_confirmByte_39 : decode cX4_confirmByte 39 = .ok (.aload_n 0, 1) := by decide +kernel
theorem dX4_confirmByte_40 : decode cX4_confirmByte 40 = .ok (.iload_n 2, 1) := by decide +kernel
theorem dX4_confirmByte_41 : decode cX4_confirmByte 41 = .ok (.invokevirtual 92, 3) := by decide +kernel
theorem dX4_confirmByte_44 : decode cX4_confirmByte 44 = .ok (.return_, 1) := by decide +kernel
theorem dX4_confirmUnit_0 : decode cX4_confirmUnit 0 = .ok (.aload_n 0, 1) := by decide +kernel
theorem dX4_confirmUnit_1 : decode cX4_confirmUnit 1 = .ok (.getfield 18, 3) := by decide +kernel
theorem dX4_confirmUnit_4 : decode cX4_confirmUnit 4 = .ok (.iload_n 1, 1) := by decide +kernel
theorem dX4_confirmUnit_5 : decode cX4_confirmUnit 5 = .ok (.bipush 31, 2) := by decide +kernel
theorem dX4_confirmUnit_7 : decode cX4_confirmUnit 7 = .ok (.iand, 1) := by decide +kernel
theorem dX4_confirmUnit_8 : decode cX4_confirmUnit 8 = .ok (.iconst 0, 1) := by decide +kernel
theorem dX4_confirmUnit_9 : decode cX4_confirmUnit 9 = .ok (.bastore, 1) := by decide +kernel
theorem dX4_confirmUnit_10 : decode cX4_confirmUnit 10 = .ok (.aload_n 0, 1) := by decide +kernel
theorem dX4_confirmUnit_11 : decode cX4_confirmUnit 11 = .ok (.dup, 1) := by decide +kernel
theorem dX4_confirmUnit_12 : decode cX4_confirmUnit 12 = .ok (.getfield 50, 3) := by decide +kernel
theorem dX4_confirmUnit_15 : decode cX4_confirmUnit 15 = .ok (.iconst 1, 1) := by decide +kernel
theorem dX4_confirmUnit_16 : decode cX4_confirmUnit 16 = .ok (.isub, 1) := by decide +kernel
theorem dX4_confirmUnit_17 : decode cX4_confirmUnit 17 = .ok (.putfield 50, 3) := by decide +kernel
theorem dX4_confirmUnit_20 : decode cX4_confirmUnit 20 = .ok (.iconst 0, 1) := by decide +kernel
theorem dX4_confirmUnit_21 : decode cX4_confirmUnit 21 = .ok (.istore_n 2, 1) := by decide +kernel
theorem dX4_confirmUnit_22 : decode cX4_confirmUnit 22 = .ok (.iconst 0, 1) := by decide +kernel
theorem dX4_confirmUnit_23 : decode cX4_confirmUnit 23 = .ok (.istore_n 3, 1) := by decide +kernel
theorem dX4_confirmUnit_24 : decode cX4_confirmUnit 24 = .ok (.iload_n 3, 1) := by decide +kernel
theorem dX4_confirmUnit_25 : decode cX4_confirmUnit 25 = .ok (.aload_n 0, 1) := by decide +kernel
theorem dX4_confirmUnit_26 : decode cX4_confirmUnit 26 = .ok (.getfield 57, 3) := by decide +kernel
theorem dX4_confirmUnit_29 : decode cX4_confirmUnit 29 = .ok (.if_icmp .ge 54, 3) := by decide +kernel
theorem dX4_confirmUnit_32 : decode cX4_confirmUnit 32 = .ok (.iload_n 3, 1) := by decide +kernel
theorem dX4_confirmUnit_33 : decode cX4_confirmUnit 33 = .ok (.aload_n 0, 1) := by decide +kernel
theorem dX4_confirmUnit_34 : decode cX4_confirmUnit 34 = .ok (.getfield 25, 3) := by decide +kernel
theorem dX4_confirmUnit_37 : decode cX4_confirmUnit 37 = .ok (.arraylength, 1) := by decide +kernel
theorem dX4_confirmUnit_38 : decode cX4_confirmUnit 38 = .ok (.if_icmp .ge 45, 3) := by decide +kernel
theorem dX4_confirmUnit_41 : decode cX4_confirmUnit 41 = .ok (.aload_n 0, 1) := by decide +kernel
theorem dX4_confirmUnit_42 : decode cX4_confirmUnit 42 = .ok (.getfield 25, 3) := by decide +kernel
theorem dX4_confirmUnit_45 : decode cX4_confirmUnit 45 = .ok (.iload_n 3, 1) := by decide +kernel
theorem dX4_confirmUnit_46 : decode cX4_confirmUnit 46 = .ok (.iaload, 1) := by decide +kernel
theorem dX4_confirmUnit_47 : decode cX4_confirmUnit 47 = .ok (.iload_n 1, 1) := by decide +kernel
theorem dX4_confirmUnit_48 : decode cX4_confirmUnit 48 = .ok (.if_icmp .ne 14, 3) := by decide +kernel
theorem dX4_confirmUnit_51 : decode cX4_confirmUnit 51 = .ok (.iload_n 3, 1) := by decide +kernel
theorem dX4_confirmUnit_52 : decode cX4_confirmUnit 52 = .ok (.ifCond .ne 25, 3) := by decide +kernel
theorem dX4_confirmUnit_55 : decode cX4_confirmUnit 55 = .ok (.aload_n 0, 1) := by decide +kernel
theorem dX4_confirmUnit_56 : decode cX4_confirmUnit 56 = .ok (.getfield 66, 3) := by decide +kernel
theorem dX4_confirmUnit_59 : decode cX4_confirmUnit 59 = .ok (.ifCond .le 18, 3) := by decide +kernel
theorem dX4_confirmUnit_62 : decode cX4_confirmUnit 62 = .ok (.aload_n 0, 1) := by decide +kernel
theorem dX4_confirmUnit_63 : decode cX4_confirmUnit 63 = .ok (.getfield 25, 3) := by decide +kernel
theorem dX4_confirmUnit_66 : decode cX4_confirmUnit 66 = .ok (.iload_n 2, 1) := by decide +kernel
theorem dX4_confirmUnit_67 : decode cX4_confirmUnit 67 = .ok (.iinc 2 1, 3) := by decide +kernel
theorem dX4_confirmUnit_70 : decode cX4_confirmUnit 70 = .ok (.aload_n 0, 1) := by decide +kernel
theorem dX4_confirmUnit_71 : decode cX4_confirmUnit 71 = .ok (.getfield 25, 3) := by decide +kernel
theorem dX4_confirmUnit_74 : decode cX4_confirmUnit 74 = .ok (.iload_n 3, 1) := by decide +kernel
theorem dX4_confirmUnit_75 : decode cX4_confirmUnit 75 = .ok (.iaload, 1) := by decide +kernel
theorem dX4_confirmUnit_76 : decode cX4_confirmUnit 76 = .ok (.iastore, 1) := by decide +kernel
theorem dX4_confirmUnit_77 : decode cX4_confirmUnit 77 = .ok (.iinc 3 1, 3) := by decide +kernel
theorem dX4_confirmUnit_80 : decode cX4_confirmUnit 80 = .ok (.goto (-56), 3) := by decide +kernel
theorem dX4_confirmUnit_83 : decode cX4_confirmUnit 83 = .ok (.aload_n 0, 1) := by decide +kernel
theorem dX4_confirmUnit_84 : decode cX4_confirmUnit 84 = .ok (.iload_n 2, 1) := by decide +kernel
theorem dX4_confirmUnit_85 : decode cX4_confirmUnit 85 = .ok (.putfield 57, 3) := by decide +kernel
theorem dX4_confirmUnit_88 : decode cX4_confirmUnit 88 = .ok (.iconst 0, 1) := by decide +kernel
theorem dX4_confirmUnit_89 : decode cX4_confirmUnit 89 = .ok (.istore_n 3, 1) := by decide +kernel
theorem dX4_confirmUnit_90 : decode cX4_confirmUnit 90 = .ok (.iload_n 3, 1) := by decide +kernel
theorem dX4_confirmUnit_91 : decode cX4_confirmUnit 91 = .ok (.bipush 32, 2) := by decide +kernel
theorem dX4_confirmUnit_93 : decode cX4_confirmUnit 93 = .ok (.if_icmp .ge 45, 3) := by decide +kernel
theorem dX4_confirmUnit_96 : decode cX4_confirmUnit 96 = .ok (.aload_n 0, 1) := by decide +kernel
theorem dX4_confirmUnit_97 : decode cX4_confirmUnit 97 = .ok (.getfield 41, 3) := by decide +kernel
theorem dX4_confirmUnit_100 : decode cX4_confirmUnit 100 = .ok (.aload_n 0, 1) := by decide +kernel
theorem dX4_confirmUnit_101 : decode cX4_confirmUnit 101 = .ok (.getfield 38, 3) := by decide +kernel
theorem dX4_confirmUnit_104 : decode cX4_confirmUnit 104 = .ok (.if_icmp .ge 34, 3) := by decide +kernel
theorem dX4_confirmUnit_107 : decode cX4_confirmUnit 107 = .ok (.aload_n 0, 1) := by decide +kernel
theorem dX4_confirmUnit_108 : decode cX4_confirmUnit 108 = .ok (.getfield 18, 3) := by decide +kernel
theorem dX4_confirmUnit_111 : decode cX4_confirmUnit 111 = .ok (.aload_n 0, 1) := by decide +kernel
theorem dX4_confirmUnit_112 : decode cX4_confirmUnit 112 = .ok (.getfield 41, 3) := by decide +kernel
theorem dX4_confirmUnit_115 : decode cX4_confirmUnit 115 = .ok (.bipush 31, 2) := by decide +kernel
theorem dX4_confirmUnit_117 : decode cX4_confirmUnit 117 = .ok (.iand, 1) := by decide +kernel
theorem dX4_confirmUnit_118 : decode cX4_confirmUnit 118 = .ok (.baload, 1) := by decide +kernel
theorem dX4_confirmUnit_119 : decode cX4_confirmUnit 119 = .ok (.ifCond .ne 19, 3) := by decide +kernel
theorem dX4_confirmUnit_122 : decode cX4_confirmUnit 122 = .ok (.aload_n 0, 1) := by decide +kernel
theorem dX4_confirmUnit_123 : decode cX4_confirmUnit 123 = .ok (.dup, 1) := by decide +kernel
theorem dX4_confirmUnit_124 : decode cX4_confirmUnit 124 = .ok (.getfield 41, 3) := by decide +kernel
theorem dX4_confirmUnit_127 : decode cX4_confirmUnit 127 = .ok (.iconst 1, 1) := by decide +kernel
theorem dX4_confirmUnit_128 : decode cX4_confirmUnit 128 = .ok (.iadd, 1) := by decide +kernel
theorem dX4_confirmUnit_129 : decode cX4_confirmUnit 129 = .ok (.putfield 41, 3) := by decide +kernel
theorem dX4_confirmUnit_132 : decode cX4_confirmUnit 132 = .ok (.iinc 3 1, 3) := by decide +kernel
theorem dX4_confirmUnit_135 : decode cX4_confirmUnit 135 = .ok (.goto (-45), 3) := by decide +kernel
theorem dX4_confirmUnit_138 : decode cX4_confirmUnit 138 = .ok (.return_, 1) := by decide +kernel
set_option maxRecDepth 20000 in
theorem ggX4_confirmReported_X4_keeps : GoodIn wsX4_confirmReported wsX4_keeps := goodIn_r _ [7, 2, 1, 8, 17, 18, 19, 20, 21, 22, 23, 24, 25, 26, 27, 28, 29, 30, 31] (by decide +kernel) (by decide +kernel)
set_option maxRecDepth 20000 in
theorem gX4_confirmReported_X4_keeps : GoodIn wsX4_confirmReported (wsV RX4 88 RX4 yX4_keeps wsX4_keeps) := goodIn_app (goodIn_of _ (by decide +kernel)) ggX4_confirmReported_X4_keeps
set_option maxRecDepth 20000 in
theorem ggX4_confirmReported_X4_confirmUnit : GoodIn wsX4_confirmReported wsX4_confirmUnit := goodIn_r _ [12, 8, 13, 14, 15, 16, 2, 1, 17, 18, 19, 20, 21, 22, 23, 24, 25, 26, 27, 28, 29, 30, 31] (by decide +kernel) (by decide +kernel)
set_option maxRecDepth 20000 in
theorem gX4_confirmReported_X4_confirmUnit : GoodIn wsX4_confirmReported (wsV RX4 92 RX4 yX4_confirmUnit wsX4_confirmUnit) := goodIn_app (goodIn_of _ (by decide +kernel)) ggX4_confirmReported_X4_confirmUnit
theorem dX4_confirmReported_0 : decode cX4_confirmReported 0 = .ok (.iload_n 2, 1) := by decide +kernel
theorem dX4_confirmReported_1 : decode cX4_confirmReported 1 = .ok (.iconst 2, 1) := by decide +kernel
theorem dX4_confirmReported_2 : decode cX4_confirmReported 2 = .ok (.if_icmp .lt 9, 3) := by decide +kernel
theorem dX4_confirmReported_5 : decode cX4_confirmReported 5 = .ok (.iload_n 2, 1) := by decide +kernel
theorem dX4_confirmReported_6 : decode cX4_confirmReported 6 = .ok (.aload_n 1, 1) := by decide +kernel
theorem dX4_confirmReported_7 : decode cX4_confirmReported 7 = .ok (.arraylength, 1) := by decide +kernel
theorem dX4_confirmReported_8 : decode cX4_confirmReported 8 = .ok (.if_icmp .le 4, 3) := by decide +kernel
theorem dX4_confirmReported_11 : decode cX4_confirmReported 11 = .ok (.return_, 1) := by decide +kernel
theorem dX4_confirmReported_12 : decode cX4_confirmReported 12 = .ok (.aload_n 1, 1) := by decide +kernel
theorem dX4_confirmReported_13 : decode cX4_confirmReported 13 = .ok (.iconst 0, 1) := by decide +kernel
theorem dX4_confirmReported_14 : decode cX4_confirmReported 14 = .ok (.iaload, 1) := by decide +kernel
theorem dX4_confirmReported_15 : decode cX4_confirmReported 15 = .ok (.bipush 63, 2) := by decide +kernel
theorem dX4_confirmReported_17 : decode cX4_confirmReported 17 = .ok (.iand, 1) := by decide +kernel
theorem dX4_confirmReported_18 : decode cX4_confirmReported 18 = .ok (.bipush 8, 2) := by decide +kernel
theorem dX4_confirmReported_20 : decode cX4_confirmReported 20 = .ok (.ishl, 1) := by decide +kernel
theorem dX4_confirmReported_21 : decode cX4_confirmReported 21 = .ok (.aload_n 1, 1) := by decide +kernel
theorem dX4_confirmReported_22 : decode cX4_confirmReported 22 = .ok (.iconst 1, 1) := by decide +kernel
theorem dX4_confirmReported_23 : decode cX4_confirmReported 23 = .ok (.iaload, 1) := by decide +kernel
theorem dX4_confirmReported_24 : decode cX4_confirmReported 24 = .ok (.ior, 1) := by decide +kernel
theorem dX4_confirmReported_25 : decode cX4_confirmReported 25 = .ok (.istore_n 3, 1) := by decide +kernel
theorem dX4_confirmReported_26 : decode cX4_confirmReported 26 = .ok (.aload_n 0, 1) := by decide +kernel
theorem dX4_confirmReported_27 : decode cX4_confirmReported 27 = .ok (.getfield 38, 3) := by decide +kernel
theorem dX4_confirmReported_30 : decode cX4_confirmReported 30 = .ok (.istore 4, 2) := by decide +kernel
theorem dX4_confirmReported_32 : decode cX4_confirmReported 32 = .ok (.aload_n 0, 1) := by decide +kernel
theorem dX4_confirmReported_33 : decode cX4_confirmReported 33 = .ok (.getfield 41, 3) := by decide +kernel
theorem dX4_confirmReported_36 : decode cX4_confirmReported 36 = .ok (.istore 5, 2) := by decide +kernel
theorem dX4_confirmReported_38 : decode cX4_confirmReported 38 = .ok (.iload 5, 2) := by decide +kernel
theorem dX4_confirmReported_40 : decode cX4_confirmReported 40 = .ok (.iload 4, 2) := by decide +kernel
theorem dX4_confirmReported_42 : decode cX4_confirmReported 42 = .ok (.if_icmp .ge 87, 3) := by decide +kernel
theorem dX4_confirmReported_45 : decode cX4_confirmReported 45 = .ok (.iload 5, 2) := by decide +kernel
theorem dX4_confirmReported_47 : decode cX4_confirmReported 47 = .ok (.iload_n 3, 1) := by decide +kernel
theorem dX4_confirmReported_48 : decode cX4_confirmReported 48 = .ok (.isub, 1) := by decide +kernel
theorem dX4_confirmReported_49 : decode cX4_confirmReported 49 = .ok (.iconst 1, 1) := by decide +kernel
theorem dX4_confirmReported_50 : decode cX4_confirmReported 50 = .ok (.isub, 1) := by decide +kernel
theorem dX4_confirmReported_51 : decode cX4_confirmReported 51 = .ok (.istore 6, 2) := by decide +kernel
theorem dX4_confirmReported_53 : decode cX4_confirmReported 53 = .ok (.iconst 2, 1) := by decide +kernel
theorem dX4_confirmReported_54 : decode cX4_confirmReported 54 = .ok (.iload 6, 2) := by decide +kernel
theorem dX4_confirmReported_56 : decode cX4_confirmReported 56 = .ok (.iconst 3, 1) := by decide +kernel
theorem dX4_confirmReported_57 : decode cX4_confirmReported 57 = .ok (.ishr, 1) := by decide +kernel
theorem dX4_confirmReported_58 : decode cX4_confirmReported 58 = .ok (.iadd, 1) := by decide +kernel
theorem dX4_confirmReported_59 : decode cX4_confirmReported 59 = .ok (.istore 7, 2) := by decide +kernel
theorem dX4_confirmReported_61 : decode cX4_confirmReported 61 = .ok (.iload 6, 2) := by decide +kernel
theorem dX4_confirmReported_63 : decode cX4_confirmReported 63 = .ok (.ifCond .lt 31, 3) := by decide +kernel
theorem dX4_confirmReported_66 : decode cX4_confirmReported 66 = .ok (.iload 7, 2) := by decide +kernel
theorem dX4_confirmReported_68 : decode cX4_confirmReported 68 = .ok (.iload_n 2, 1) := by decide +kernel
theorem dX4_confirmReported_69 : decode cX4_confirmReported 69 = .ok (.if_icmp .ge 25, 3) := by decide +kernel
theorem dX4_confirmReported_72 : decode cX4_confirmReported 72 = .ok (.aload_n 1, 1) := by decide +kernel
theorem dX4_confirmReported_73 : decode cX4_confirmReported 73 = .ok (.iload 7, 2) := by decide +kernel
theorem dX4_confirmReported_75 : decode cX4_confirmReported 75 = .ok (.iaload, 1) := by decide +kernel
theorem dX4_confirmReported_76 : decode cX4_confirmReported 76 = .ok (.bipush 7, 2) := by decide +kernel
theorem dX4_confirmReported_78 : decode cX4_confirmReported 78 = .ok (.iload 6, 2) := by decide +kernel
theorem dX4_confirmReported_80 : decode cX4_confirmReported 80 = .ok (.bipush 7, 2) := by decide +kernel
theorem dX4_confirmReported_82 : decode cX4_confirmReported 82 = .ok (.iand, 1) := by decide +kernel
theorem dX4_confirmReported_83 : decode cX4_confirmReported 83 = .ok (.isub, 1) := by decide +kernel
theorem dX4_confirmReported_84 : decode cX4_confirmReported 84 = .ok (.ishr, 1) := by decide +kernel
theorem dX4_confirmReported_85 : decode cX4_confirmReported 85 = .ok (.iconst 1, 1) := by decide +kernel
theorem dX4_confirmReported_86 : decode cX4_confirmReported 86 = .ok (.iand, 1) := by decide +kernel
theorem dX4_confirmReported_87 : decode cX4_confirmReported 87 = .ok (.ifCond .eq 7, 3) := by decide +kernel
theorem dX4_confirmReported_90 : decode cX4_confirmReported 90 = .ok (.iconst 1, 1) := by decide +kernel
theorem dX4_confirmReported_91 : decode cX4_confirmReported 91 = .ok (.goto 4, 3) := by decide +kernel
theorem dX4_confirmReported_94 : decode cX4_confirmReported 94 = .ok (.iconst 0, 1) := by decide +kernel
theorem dX4_confirmReported_95 : decode cX4_confirmReported 95 = .ok (.istore 8, 2) := by decide +kernel
theorem dX4_confirmReported_97 : decode cX4_confirmReported 97 = .ok (.aload_n 0, 1) := by decide +kernel
theorem dX4_confirmReported_98 : decode cX4_confirmReported 98 = .ok (.iload 5, 2) := by decide +kernel
theorem dX4_confirmReported_100 : decode cX4_confirmReported 100 = .ok (.invokevirtual 88, 3) := by decide +kernel
theorem dX4_confirmReported_103 : decode cX4_confirmReported 103 = .ok (.ifCond .eq 20, 3) := by decide +kernel
theorem dX4_confirmReported_106 : decode cX4_confirmReported 106 = .ok (.iload 5, 2) := by decide +kernel
theorem dX4_confirmReported_108 : decode cX4_confirmReported 108 = .ok (.iload_n 3, 1) := by decide +kernel
theorem dX4_confirmReported_109 : decode cX4_confirmReported 109 = .ok (.if_icmp .lt 8, 3) := by decide +kernel
theorem dX4_confirmReported_112 : decode cX4_confirmReported 112 = .ok (.iload 8, 2) := by decide +kernel
theorem dX4_confirmReported_114 : decode cX4_confirmReported 114 = .ok (.ifCond .eq 9, 3) := by decide +kernel
theorem dX4_confirmReported_117 : decode cX4_confirmReported 117 = .ok (.aload_n 0, 1) := by decide +kernel
theorem dX4_confirmReported_118 : decode cX4_confirmReported 118 = .ok (.iload 5, 2) := by decide +kernel
theorem dX4_confirmReported_120 : decode cX4_confirmReported 120 = .ok (.invokevirtual 92, 3) := by decide +kernel
theorem dX4_confirmReported_123 : decode cX4_confirmReported 123 = .ok (.iinc 5 1, 3) := by decide +kernel
theorem dX4_confirmReported_126 : decode cX4_confirmReported 126 = .ok (.goto (-88), 3) := by decide +kernel
theorem dX4_confirmReported_129 : decode cX4_confirmReported 129 = .ok (.return_, 1) := by decide +kernel
set_option maxRecDepth 20000 in
theorem ggX4_waitAnew_X3_writeReport : GoodIn wsX4_waitAnew wsX3_writeReport := goodIn_r _ [13, 14, 15, 16, 17, 18, 19, 46, 47, 48, 49, 50, 51, 52, 53, 54, 55, 56, 57, 58] (by decide +kernel) (by decide +kernel)
set_option maxRecDepth 20000 in
theorem gX4_waitAnew_X3_writeReport : GoodIn wsX4_waitAnew (wsV RX4 95 RX3 yX3_writeReport wsX3_writeReport) := goodIn_app (goodIn_of _ (by decide +kernel)) ggX4_waitAnew_X3_writeReport
set_option maxRecDepth 20000 in
theorem ggX4_waitAnew_X4_addWaiting : GoodIn wsX4_waitAnew wsX4_addWaiting := goodIn_r _ [24, 3, 25, 31, 32, 33, 34, 35, 36, 37, 38, 39, 40, 41, 42, 43, 44, 45] (by decide +kernel) (by decide +kernel)
set_option maxRecDepth 20000 in
theorem gX4_waitAnew_X4_addWaiting : GoodIn wsX4_waitAnew (wsV RX4 53 RX4 yX4_addWaiting wsX4_addWaiting) := goodIn_app (goodIn_of _ (by decide +kernel)) ggX4_waitAnew_X4_addWaiting
set_option maxRecDepth 20000 in
theorem ggX4_waitAnew_X4_keeps : GoodIn wsX4_waitAnew wsX4_keeps := goodIn_r _ [29, 5, 6, 30, 31, 32, 33, 34, 35, 36, 37, 38, 39, 40, 41, 42, 43, 44, 45] (by decide +kernel) (by decide +kernel)
set_option maxRecDepth 20000 in
theorem gX4_waitAnew_X4_keeps : GoodIn wsX4_waitAnew (wsV RX4 88 RX4 yX4_keeps wsX4_keeps) := goodIn_app (goodIn_of _ (by decide +kernel)) ggX4_waitAnew_X4_keeps
theorem dX4_waitAnew_0 : decode cX4_waitAnew 0 = .ok (.aload_n 0, 1) := by decide +kernel
theorem dX4_waitAnew_1 : decode cX4_waitAnew 1 = .ok (.aload_n 1, 1) := by decide +kernel
theorem dX4_waitAnew_2 : decode cX4_waitAnew 2 = .ok (.aload_n 0, 1) := by decide +kernel
theorem dX4_waitAnew_3 : decode cX4_waitAnew 3 = .ok (.getfield 31, 3) := by decide +kernel
theorem dX4_waitAnew_6 : decode cX4_waitAnew 6 = .ok (.invokevirtual 95, 3) := by decide +kernel
theorem dX4_waitAnew_9 : decode cX4_waitAnew 9 = .ok (.putfield 69, 3) := by decide +kernel
theorem dX4_waitAnew_12 : decode cX4_waitAnew 12 = .ok (.aload_n 0, 1) := by decide +kernel
theorem dX4_waitAnew_13 : decode cX4_waitAnew 13 = .ok (.iconst 0, 1) := by decide +kernel
theorem dX4_waitAnew_14 : decode cX4_waitAnew 14 = .ok (.putfield 57, 3) := by decide +kernel
theorem dX4_waitAnew_17 : decode cX4_waitAnew 17 = .ok (.aload_n 0, 1) := by decide +kernel
theorem dX4_waitAnew_18 : decode cX4_waitAnew 18 = .ok (.iconst 0, 1) := by decide +kernel
theorem dX4_waitAnew_19 : decode cX4_waitAnew 19 = .ok (.putfield 66, 3) := by decide +kernel
theorem dX4_waitAnew_22 : decode cX4_waitAnew 22 = .ok (.aload_n 0, 1) := by decide +kernel
theorem dX4_waitAnew_23 : decode cX4_waitAnew 23 = .ok (.iconst (-1), 1) := by decide +kernel
theorem dX4_waitAnew_24 : decode cX4_waitAnew 24 = .ok (.invokevirtual 53, 3) := by decide +kernel
theorem dX4_waitAnew_27 : decode cX4_waitAnew 27 = .ok (.aload_n 0, 1) := by decide +kernel
theorem dX4_waitAnew_28 : decode cX4_waitAnew 28 = .ok (.getfield 41, 3) := by decide +kernel
theorem dX4_waitAnew_31 : decode cX4_waitAnew 31 = .ok (.istore_n 2, 1) := by decide +kernel
theorem dX4_waitAnew_32 : decode cX4_waitAnew 32 = .ok (.iload_n 2, 1) := by decide +kernel
theorem dX4_waitAnew_33 : decode cX4_waitAnew 33 = .ok (.aload_n 0, 1) := by decide +kernel
theorem dX4_waitAnew_34 : decode cX4_waitAnew 34 = .ok (.getfield 38, 3) := by decide +kernel
theorem dX4_waitAnew_37 : decode cX4_waitAnew 37 = .ok (.if_icmp .ge 41, 3) := by decide +kernel
theorem dX4_waitAnew_40 : decode cX4_waitAnew 40 = .ok (.aload_n 0, 1) := by decide +kernel
theorem dX4_waitAnew_41 : decode cX4_waitAnew 41 = .ok (.iload_n 2, 1) := by decide +kernel
theorem dX4_waitAnew_42 : decode cX4_waitAnew 42 = .ok (.invokevirtual 88, 3) := by decide +kernel
theorem dX4_waitAnew_45 : decode cX4_waitAnew 45 = .ok (.ifCond .eq 27, 3) := by decide +kernel
theorem dX4_waitAnew_48 : decode cX4_waitAnew 48 = .ok (.iload_n 2, 1) := by decide +kernel
theorem dX4_waitAnew_49 : decode cX4_waitAnew 49 = .ok (.bipush 31, 2) := by decide +kernel
theorem dX4_waitAnew_51 : decode cX4_waitAnew 51 = .ok (.iand, 1) := by decide +kernel
theorem dX4_waitAnew_52 : decode cX4_waitAnew 52 = .ok (.istore_n 3, 1) := by decide +kernel
theorem dX4_waitAnew_53 : decode cX4_waitAnew 53 = .ok (.aload_n 0, 1) := by decide +kernel
theorem dX4_waitAnew_54 : decode cX4_waitAnew 54 = .ok (.getfield 22, 3) := by decide +kernel
theorem dX4_waitAnew_57 : decode cX4_waitAnew 57 = .ok (.iload_n 3, 1) := by decide +kernel
theorem dX4_waitAnew_58 : decode cX4_waitAnew 58 = .ok (.aload_n 0, 1) := by decide +kernel
theorem dX4_waitAnew_59 : decode cX4_waitAnew 59 = .ok (.getfield 15, 3) := by decide +kernel
theorem dX4_waitAnew_62 : decode cX4_waitAnew 62 = .ok (.iload_n 3, 1) := by decide +kernel
theorem dX4_waitAnew_63 : decode cX4_waitAnew 63 = .ok (.iaload, 1) := by decide +kernel
theorem dX4_waitAnew_64 : decode cX4_waitAnew 64 = .ok (.iconst 1, 1) := by decide +kernel
theorem dX4_waitAnew_65 : decode cX4_waitAnew 65 = .ok (.iadd, 1) := by decide +kernel
theorem dX4_waitAnew_66 : decode cX4_waitAnew 66 = .ok (.iastore, 1) := by decide +kernel
theorem dX4_waitAnew_67 : decode cX4_waitAnew 67 = .ok (.aload_n 0, 1) := by decide +kernel
theorem dX4_waitAnew_68 : decode cX4_waitAnew 68 = .ok (.iload_n 2, 1) := by decide +kernel
theorem dX4_waitAnew_69 : decode cX4_waitAnew 69 = .ok (.invokevirtual 53, 3) := by decide +kernel
theorem dX4_waitAnew_72 : decode cX4_waitAnew 72 = .ok (.iinc 2 1, 3) := by decide +kernel
theorem dX4_waitAnew_75 : decode cX4_waitAnew 75 = .ok (.goto (-43), 3) := by decide +kernel
theorem dX4_waitAnew_78 : decode cX4_waitAnew 78 = .ok (.return_, 1) := by decide +kernel
theorem dX5_init_0 : decode cX5_init 0 = .ok (.aload_n 0, 1) := by decide +kernel
theorem dX5_init_1 : decode cX5_init 1 = .ok (.invokespecial 3, 3) := by decide +kernel
theorem dX5_init_4 : decode cX5_init 4 = .ok (.aload_n 0, 1) := by decide +kernel
theorem dX5_init_5 : decode cX5_init 5 = .ok (.sipush 240, 3) := by decide +kernel
theorem dX5_init_8 : decode cX5_init 8 = .ok (.newarray .int, 2) := by decide +kernel
theorem dX5_init_10 : decode cX5_init 10 = .ok (.putfield 9, 3) := by decide +kernel
theorem dX5_init_13 : decode cX5_init 13 = .ok (.return_, 1) := by decide +kernel
set_option maxRecDepth 20000 in
theorem ggX5_clear_J7_fill_53178 : GoodIn wsX5_clear wsJ7_fill_53178 := goodIn_r _ [10] (by decide +kernel) (by decide +kernel)
set_option maxRecDepth 20000 in
theorem gX5_clear_J7_fill_53178 : GoodIn wsX5_clear (va_wsS RX5 15 yJ7_fill_53178 wsJ7_fill_53178) := goodIn_app (goodIn_of _ (by decide +kernel)) ggX5_clear_J7_fill_53178
theorem dX5_clear_0 : decode cX5_clear 0 = .ok (.aload_n 0, 1) := by decide +kernel
theorem dX5_clear_1 : decode cX5_clear 1 = .ok (.getfield 9, 3) := by decide +kernel
theorem dX5_clear_4 : decode cX5_clear 4 = .ok (.iconst 0, 1) := by decide +kernel
theorem dX5_clear_5 : decode cX5_clear 5 = .ok (.invokestatic 15, 3) := by decide +kernel
theorem dX5_clear_8 : decode cX5_clear 8 = .ok (.aload_n 0, 1) := by decide +kernel
theorem dX5_clear_9 : decode cX5_clear 9 = .ok (.iload_n 1, 1) := by decide +kernel
theorem dX5_clear_10 : decode cX5_clear 10 = .ok (.putfield 21, 3) := by decide +kernel
theorem dX5_clear_13 : decode cX5_clear 13 = .ok (.aload_n 0, 1) := by decide +kernel
theorem dX5_clear_14 : decode cX5_clear 14 = .ok (.iconst 0, 1) := by decide +kernel
theorem dX5_clear_15 : decode cX5_clear 15 = .ok (.putfield 25, 3) := by decide +kernel
theorem dX5_clear_18 : decode cX5_clear 18 = .ok (.aload_n 0, 1) := by decide +kernel
theorem dX5_clear_19 : decode cX5_clear 19 = .ok (.iconst 0, 1) := by decide +kernel
theorem dX5_clear_20 : decode cX5_clear 20 = .ok (.putfield 28, 3) := by decide +kernel
theorem dX5_clear_23 : decode cX5_clear 23 = .ok (.aload_n 0, 1) := by decide +kernel
theorem dX5_clear_24 : decode cX5_clear 24 = .ok (.iconst 0, 1) := by decide +kernel
theorem dX5_clear_25 : decode cX5_clear 25 = .ok (.putfield 31, 3) := by decide +kernel
theorem dX5_clear_28 : decode cX5_clear 28 = .ok (.aload_n 0, 1) := by decide +kernel
theorem dX5_clear_29 : decode cX5_clear 29 = .ok (.iconst 0, 1) := by decide +kernel
theorem dX5_clear_30 : decode cX5_clear 30 = .ok (.putfield 35, 3) := by decide +kernel
theorem dX5_clear_33 : decode cX5_clear 33 = .ok (.return_, 1) := by decide +kernel
theorem dX5_cell_0 : decode cX5_cell 0 = .ok (.iload_n 1, 1) := by decide +kernel
theorem dX5_cell_1 : decode cX5_cell 1 = .ok (.ifCond .lt 21, 3) := by decide +kernel
theorem dX5_cell_4 : decode cX5_cell 4 = .ok (.iload_n 1, 1) := by decide +kernel
theorem dX5_cell_5 : decode cX5_cell 5 = .ok (.aload_n 0, 1) := by decide +kernel
theorem dX5_cell_6 : decode cX5_cell 6 = .ok (.getfield 9, 3) := by decide +kernel
theorem dX5_cell_9 : decode cX5_cell 9 = .ok (.arraylength, 1) := by decide +kernel
theorem dX5_cell_10 : decode cX5_cell 10 = .ok (.if_icmp .ge 12, 3) := by decide +kernel
theorem dX5_cell_13 : decode cX5_cell 13 = .ok (.aload_n 0, 1) := by decide +kernel
theorem dX5_cell_14 : decode cX5_cell 14 = .ok (.getfield 9, 3) := by decide +kernel
theorem dX5_cell_17 : decode cX5_cell 17 = .ok (.iload_n 1, 1) := by decide +kernel
theorem dX5_cell_18 : decode cX5_cell 18 = .ok (.iaload, 1) := by decide +kernel
theorem dX5_cell_19 : decode cX5_cell 19 = .ok (.goto 4, 3) := by decide +kernel
theorem dX5_cell_22 : decode cX5_cell 22 = .ok (.iconst 0, 1) := by decide +kernel
theorem dX5_cell_23 : decode cX5_cell 23 = .ok (.ireturn, 1) := by decide +kernel
theorem dX5_has_0 : decode cX5_has 0 = .ok (.iload_n 1, 1) := by decide +kernel
theorem dX5_has_1 : decode cX5_has 1 = .ok (.ifCond .lt 27, 3) := by decide +kernel
theorem dX5_has_4 : decode cX5_has 4 = .ok (.iload_n 1, 1) := by decide +kernel
theorem dX5_has_5 : decode cX5_has 5 = .ok (.aload_n 0, 1) := by decide +kernel
theorem dX5_has_6 : decode cX5_has 6 = .ok (.getfield 9, 3) := by decide +kernel
theorem dX5_has_9 : decode cX5_has 9 = .ok (.arraylength, 1) := by decide +kernel
theorem dX5_has_10 : decode cX5_has 10 = .ok (.if_icmp .ge 18, 3) := by decide +kernel
theorem dX5_has_13 : decode cX5_has 13 = .ok (.aload_n 0, 1) := by decide +kernel
theorem dX5_has_14 : decode cX5_has 14 = .ok (.getfield 9, 3) := by decide +kernel
theorem dX5_has_17 : decode cX5_has 17 = .ok (.iload_n 1, 1) := by decide +kernel
theorem dX5_has_18 : decode cX5_has 18 = .ok (.iaload, 1) := by decide +kernel
theorem dX5_has_19 : decode cX5_has 19 = .ok (.iload_n 2, 1) := by decide +kernel
theorem dX5_has_20 : decode cX5_has 20 = .ok (.iand, 1) := by decide +kernel
theorem dX5_has_21 : decode cX5_has 21 = .ok (.ifCond .eq 7, 3) := by decide +kernel
theorem dX5_has_24 : decode cX5_has 24 = .ok (.iconst 1, 1) := by decide +kernel
theorem dX5_has_25 : decode cX5_has 25 = .ok (.goto 4, 3) := by decide +kernel
theorem dX5_has_28 : decode cX5_has 28 = .ok (.iconst 0, 1) := by decide +kernel
theorem dX5_has_29 : decode cX5_has 29 = .ok (.ireturn, 1) := by decide +kernel
theorem dX5_append_0 : decode cX5_append 0 = .ok (.aload_n 0, 1) := by decide +kernel
theorem dX5_append_1 : decode cX5_append 1 = .ok (.getfield 21, 3) := by decide +kernel
theorem dX5_append_4 : decode cX5_append 4 = .ok (.ifCond .lt 32, 3) := by decide +kernel
theorem dX5_append_7 : decode cX5_append 7 = .ok (.aload_n 0, 1) := by decide +kernel
theorem dX5_append_8 : decode cX5_append 8 = .ok (.getfield 21, 3) := by decide +kernel
theorem dX5_append_11 : decode cX5_append 11 = .ok (.aload_n 0, 1) := by decide +kernel
theorem dX5_append_12 : decode cX5_append 12 = .ok (.getfield 9, 3) := by decide +kernel
theorem dX5_append_15 : decode cX5_append 15 = .ok (.arraylength, 1) := by decide +kernel
theorem dX5_append_16 : decode cX5_append 16 = .ok (.if_icmp .ge 20, 3) := by decide +kernel
theorem dX5_append_19 : decode cX5_append 19 = .ok (.aload_n 0, 1) := by decide +kernel
theorem dX5_append_20 : decode cX5_append 20 = .ok (.getfield 9, 3) := by decide +kernel
theorem dX5_append_23 : decode cX5_append 23 = .ok (.aload_n 0, 1) := by decide +kernel
theorem dX5_append_24 : decode cX5_append 24 = .ok (.dup, 1) := by decide +kernel
theorem dX5_append_25 : decode cX5_append 25 = .ok (.getfield 21, 3) := by decide +kernel
theorem dX5_append_28 : decode cX5_append 28 = .ok (.dup_x1, 1) := by decide +kernel
theorem dX5_append_29 : decode cX5_append 29 = .ok (.iconst 1, 1) := by decide +kernel
theorem dX5_append_30 : decode cX5_append 30 = .ok (.iadd, 1) := by decide +kernel
theorem dX5_append_31 : decode cX5_append 31 = .ok (.putfield 21, 3) := by decide +kernel
theorem dX5_append_34 : decode cX5_append 34 = .ok (.iload_n 1, 1) := by decide +kernel
theorem dX5_append_35 : decode cX5_append 35 = .ok (.iastore, 1) := by decide +kernel
theorem dX5_append_36 : decode cX5_append 36 = .ok (.return_, 1) := by decide +kernel
theorem dX5_markCell_0 : decode cX5_markCell 0 = .ok (.iload_n 1, 1) := by decide +kernel
theorem dX5_markCell_1 : decode cX5_markCell 1 = .ok (.ifCond .lt 47, 3) := by decide +kernel
theorem dX5_markCell_4 : decode cX5_markCell 4 = .ok (.iload_n 1, 1) := by decide +kernel
theorem dX5_markCell_5 : decode cX5_markCell 5 = .ok (.aload_n 0, 1) := by decide +kernel
theorem dX5_markCell_6 : decode cX5_markCell 6 = .ok (.getfield 9, 3) := by decide +kernel
theorem dX5_markCell_9 : decode cX5_markCell 9 = .ok (.arraylength, 1) := by decide +kernel
theorem dX5_markCell_10 : decode cX5_markCell 10 = .ok (.if_icmp .ge 38, 3) := by decide +kernel
theorem dX5_markCell_13 : decode cX5_markCell 13 = .ok (.aload_n 0, 1) := by decide +kernel
theorem dX5_markCell_14 : decode cX5_markCell 14 = .ok (.getfield 9, 3) := by decide +kernel
theorem dX5_markCell_17 : decode cX5_markCell 17 = .ok (.iload_n 1, 1) := by decide +kernel
theorem dX5_markCell_18 : decode cX5_markCell 18 = .ok (.iaload, 1) := by decide +kernel
theorem dX5_markCell_19 : decode cX5_markCell 19 = .ok (.sipush 1024, 3) := by decide +kernel
theorem dX5_markCell_22 : decode cX5_markCell 22 = .ok (.iand, 1) := by decide +kernel
theorem dX5_markCell_23 : decode cX5_markCell 23 = .ok (.ifCond .ne 25, 3) := by decide +kernel
theorem dX5_markCell_26 : decode cX5_markCell 26 = .ok (.aload_n 0, 1) := by decide +kernel
theorem dX5_markCell_27 : decode cX5_markCell 27 = .ok (.getfield 9, 3) := by decide +kernel
theorem dX5_markCell_30 : decode cX5_markCell 30 = .ok (.iload_n 1, 1) := by decide +kernel
theorem dX5_markCell_31 : decode cX5_markCell 31 = .ok (.dup2, 1) := by decide +kernel
theorem dX5_markCell_32 : decode cX5_markCell 32 = .ok (.iaload, 1) := by decide +kernel
theorem dX5_markCell_33 : decode cX5_markCell 33 = .ok (.sipush 1024, 3) := by decide +kernel
theorem dX5_markCell_36 : decode cX5_markCell 36 = .ok (.ior, 1) := by decide +kernel
theorem dX5_markCell_37 : decode cX5_markCell 37 = .ok (.iastore, 1) := by decide +kernel
theorem dX5_markCell_38 : decode cX5_markCell 38 = .ok (.aload_n 0, 1) := by decide +kernel
theorem dX5_markCell_39 : decode cX5_markCell 39 = .ok (.dup, 1) := by decide +kernel
theorem dX5_markCell_40 : decode cX5_markCell 40 = .ok (.getfield 25, 3) := by decide +kernel
theorem dX5_markCell_43 : decode cX5_markCell 43 = .ok (.iconst 1, 1) := by decide +kernel
theorem dX5_markCell_44 : decode cX5_markCell 44 = .ok (.iadd, 1) := by decide +kernel
theorem dX5_markCell_45 : decode cX5_markCell 45 = .ok (.putfield 25, 3) := by decide +kernel
theorem dX5_markCell_48 : decode cX5_markCell 48 = .ok (.return_, 1) := by decide +kernel
theorem dX5_unmarkCell_0 : decode cX5_unmarkCell 0 = .ok (.iload_n 1, 1) := by decide +kernel
theorem dX5_unmarkCell_1 : decode cX5_unmarkCell 1 = .ok (.ifCond .lt 47, 3) := by decide +kernel
theorem dX5_unmarkCell_4 : decode cX5_unmarkCell 4 = .ok (.iload_n 1, 1) := by decide +kernel
theorem dX5_unmarkCell_5 : decode cX5_unmarkCell 5 = .ok (.aload_n 0, 1) := by decide +kernel
theorem dX5_unmarkCell_6 : decode cX5_unmarkCell 6 = .ok (.getfield 9, 3) := by decide +kernel
theorem dX5_unmarkCell_9 : decode cX5_unmarkCell 9 = .ok (.arraylength, 1) := by decide +kernel
theorem dX5_unmarkCell_10 : decode cX5_unmarkCell 10 = .ok (.if_icmp .ge 38, 3) := by decide +kernel
theorem dX5_unmarkCell_13 : decode cX5_unmarkCell 13 = .ok (.aload_n 0, 1) := by decide +kernel
theorem dX5_unmarkCell_14 : decode cX5_unmarkCell 14 = .ok (.getfield 9, 3) := by decide +kernel
theorem dX5_unmarkCell_17 : decode cX5_unmarkCell 17 = .ok (.iload_n 1, 1) := by decide +kernel
theorem dX5_unmarkCell_18 : decode cX5_unmarkCell 18 = .ok (.iaload, 1) := by decide +kernel
theorem dX5_unmarkCell_19 : decode cX5_unmarkCell 19 = .ok (.sipush 1024, 3) := by decide +kernel
theorem dX5_unmarkCell_22 : decode cX5_unmarkCell 22 = .ok (.iand, 1) := by decide +kernel
theorem dX5_unmarkCell_23 : decode cX5_unmarkCell 23 = .ok (.ifCond .eq 25, 3) := by decide +kernel
theorem dX5_unmarkCell_26 : decode cX5_unmarkCell 26 = .ok (.aload_n 0, 1) := by decide +kernel
theorem dX5_unmarkCell_27 : decode cX5_unmarkCell 27 = .ok (.getfield 9, 3) := by decide +kernel
theorem dX5_unmarkCell_30 : decode cX5_unmarkCell 30 = .ok (.iload_n 1, 1) := by decide +kernel
theorem dX5_unmarkCell_31 : decode cX5_unmarkCell 31 = .ok (.dup2, 1) := by decide +kernel
theorem dX5_unmarkCell_32 : decode cX5_unmarkCell 32 = .ok (.iaload, 1) := by decide +kernel
theorem dX5_unmarkCell_33 : decode cX5_unmarkCell 33 = .ok (.sipush (-1025), 3) := by decide +kernel
theorem dX5_unmarkCell_36 : decode cX5_unmarkCell 36 = .ok (.iand, 1) := by decide +kernel
theorem dX5_unmarkCell_37 : decode cX5_unmarkCell 37 = .ok (.iastore, 1) := by decide +kernel
theorem dX5_unmarkCell_38 : decode cX5_unmarkCell 38 = .ok (.aload_n 0, 1) := by decide +kernel
theorem dX5_unmarkCell_39 : decode cX5_unmarkCell 39 = .ok (.dup, 1) := by decide +kernel
theorem dX5_unmarkCell_40 : decode cX5_unmarkCell 40 = .ok (.getfield 25, 3) := by decide +kernel
theorem dX5_unmarkCell_43 : decode cX5_unmarkCell 43 = .ok (.iconst 1, 1) := by decide +kernel
theorem dX5_unmarkCell_44 : decode cX5_unmarkCell 44 = .ok (.isub, 1) := by decide +kernel
theorem dX5_unmarkCell_45 : decode cX5_unmarkCell 45 = .ok (.putfield 25, 3) := by decide +kernel
theorem dX5_unmarkCell_48 : decode cX5_unmarkCell 48 = .ok (.return_, 1) := by decide +kernel
theorem dX5_putArrived_0 : decode cX5_putArrived 0 = .ok (.iload_n 1, 1) := by decide +kernel
theorem dX5_putArrived_1 : decode cX5_putArrived 1 = .ok (.ifCond .lt 46, 3) := by decide +kernel
theorem dX5_putArrived_4 : decode cX5_putArrived 4 = .ok (.iload_n 1, 1) := by decide +kernel
theorem dX5_putArrived_5 : decode cX5_putArrived 5 = .ok (.aload_n 0, 1) := by decide +kernel
theorem dX5_putArrived_6 : decode cX5_putArrived 6 = .ok (.getfield 9, 3) := by decide +kernel
theorem dX5_putArrived_9 : decode cX5_putArrived 9 = .ok (.arraylength, 1) := by decide +kernel
theorem dX5_putArrived_10 : decode cX5_putArrived 10 = .ok (.if_icmp .ge 37, 3) := by decide +kernel
theorem dX5_putArrived_13 : decode cX5_putArrived 13 = .ok (.aload_n 0, 1) := by decide +kernel
theorem dX5_putArrived_14 : decode cX5_putArrived 14 = .ok (.getfield 9, 3) := by decide +kernel
theorem dX5_putArrived_17 : decode cX5_putArrived 17 = .ok (.iload_n 1, 1) := by decide +kernel
theorem dX5_putArrived_18 : decode cX5_putArrived 18 = .ok (.iaload, 1) := by decide +kernel
theorem dX5_putArrived_19 : decode cX5_putArrived 19 = .ok (.sipush 1024, 3) := by decide +kernel
theorem dX5_putArrived_22 : decode cX5_putArrived 22 = .ok (.iand, 1) := by decide +kernel
theorem dX5_putArrived_23 : decode cX5_putArrived 23 = .ok (.ifCond .ne 24, 3) := by decide +kernel
theorem dX5_putArrived_26 : decode cX5_putArrived 26 = .ok (.aload_n 0, 1) := by decide +kernel
theorem dX5_putArrived_27 : decode cX5_putArrived 27 = .ok (.getfield 9, 3) := by decide +kernel
theorem dX5_putArrived_30 : decode cX5_putArrived 30 = .ok (.iload_n 1, 1) := by decide +kernel
theorem dX5_putArrived_31 : decode cX5_putArrived 31 = .ok (.iload_n 2, 1) := by decide +kernel
theorem dX5_putArrived_32 : decode cX5_putArrived 32 = .ok (.sipush 1024, 3) := by decide +kernel
theorem dX5_putArrived_35 : decode cX5_putArrived 35 = .ok (.ior, 1) := by decide +kernel
theorem dX5_putArrived_36 : decode cX5_putArrived 36 = .ok (.iastore, 1) := by decide +kernel
theorem dX5_putArrived_37 : decode cX5_putArrived 37 = .ok (.aload_n 0, 1) := by decide +kernel
theorem dX5_putArrived_38 : decode cX5_putArrived 38 = .ok (.dup, 1) := by decide +kernel
theorem dX5_putArrived_39 : decode cX5_putArrived 39 = .ok (.getfield 25, 3) := by decide +kernel
theorem dX5_putArrived_42 : decode cX5_putArrived 42 = .ok (.iconst 1, 1) := by decide +kernel
theorem dX5_putArrived_43 : decode cX5_putArrived 43 = .ok (.iadd, 1) := by decide +kernel
theorem dX5_putArrived_44 : decode cX5_putArrived 44 = .ok (.putfield 25, 3) := by decide +kernel
theorem dX5_putArrived_47 : decode cX5_putArrived 47 = .ok (.return_, 1) := by decide +kernel
theorem dX5_nextMark_0 : decode cX5_nextMark 0 = .ok (.iload_n 1, 1) := by decide +kernel
theorem dX5_nextMark_1 : decode cX5_nextMark 1 = .ok (.iconst 0, 1) := by decide +kernel
theorem dX5_nextMark_2 : decode cX5_nextMark 2 = .ok (.invokestatic 38, 3) := by decide +kernel
theorem dX5_nextMark_5 : decode cX5_nextMark 5 = .ok (.istore 4, 2) := by decide +kernel
theorem dX5_nextMark_7 : decode cX5_nextMark 7 = .ok (.iload 4, 2) := by decide +kernel
theorem dX5_nextMark_9 : decode cX5_nextMark 9 = .ok (.iload_n 2, 1) := by decide +kernel
theorem dX5_nextMark_10 : decode cX5_nextMark 10 = .ok (.if_icmp .ge 45, 3) := by decide +kernel
theorem dX5_nextMark_13 : decode cX5_nextMark 13 = .ok (.iload 4, 2) := by decide +kernel
theorem dX5_nextMark_15 : decode cX5_nextMark 15 = .ok (.aload_n 0, 1) := by decide +kernel
theorem dX5_nextMark_16 : decode cX5_nextMark 16 = .ok (.getfield 9, 3) := by decide +kernel
theorem dX5_nextMark_19 : decode cX5_nextMark 19 = .ok (.arraylength, 1) := by decide +kernel
theorem dX5_nextMark_20 : decode cX5_nextMark 20 = .ok (.if_icmp .ge 35, 3) := by decide +kernel
theorem dX5_nextMark_23 : decode cX5_nextMark 23 = .ok (.aload_n 0, 1) := by decide +kernel
theorem dX5_nextMark_24 : decode cX5_nextMark 24 = .ok (.getfield 9, 3) := by decide +kernel
theorem dX5_nextMark_27 : decode cX5_nextMark 27 = .ok (.iload 4, 2) := by decide +kernel
theorem dX5_nextMark_29 : decode cX5_nextMark 29 = .ok (.iaload, 1) := by decide +kernel
theorem dX5_nextMark_30 : decode cX5_nextMark 30 = .ok (.sipush 1024, 3) := by decide +kernel
theorem dX5_nextMark_33 : decode cX5_nextMark 33 = .ok (.iand, 1) := by decide +kernel
theorem dX5_nextMark_34 : decode cX5_nextMark 34 = .ok (.ifCond .eq 7, 3) := by decide +kernel
theorem dX5_nextMark_37 : decode cX5_nextMark 37 = .ok (.iconst 1, 1) := by decide +kernel
theorem dX5_nextMark_38 : decode cX5_nextMark 38 = .ok (.goto 4, 3) := by decide +kernel
theorem dX5_nextMark_41 : decode cX5_nextMark 41 = .ok (.iconst 0, 1) := by decide +kernel
theorem dX5_nextMark_42 : decode cX5_nextMark 42 = .ok (.iload_n 3, 1) := by decide +kernel
theorem dX5_nextMark_43 : decode cX5_nextMark 43 = .ok (.if_icmp .ne 6, 3) := by decide +kernel
theorem dX5_nextMark_46 : decode cX5_nextMark 46 = .ok (.iload 4, 2) := by decide +kernel
theorem dX5_nextMark_48 : decode cX5_nextMark 48 = .ok (.ireturn, 1) := by decide +kernel
theorem dX5_nextMark_49 : decode cX5_nextMark 49 = .ok (.iinc 4 1, 3) := by decide +kernel
theorem dX5_nextMark_52 : decode cX5_nextMark 52 = .ok (.goto (-45), 3) := by decide +kernel
theorem dX5_nextMark_55 : decode cX5_nextMark 55 = .ok (.iload_n 2, 1) := by decide +kernel
theorem dX5_nextMark_56 : decode cX5_nextMark 56 = .ok (.ireturn, 1) := by decide +kernel
set_option maxRecDepth 20000 in
theorem ggX5_innerEnds_X5_has : GoodIn wsX5_innerEnds wsX5_has := goodIn_r _ [5, 6, 7, 8, 9, 10, 11, 12] (by decide +kernel) (by decide +kernel)
set_option maxRecDepth 20000 in
theorem gX5_innerEnds_X5_has : GoodIn wsX5_innerEnds (wsV RX5 44 RX5 yX5_has wsX5_has) := goodIn_app (goodIn_of _ (by decide +kernel)) ggX5_innerEnds_X5_has
theorem dX5_innerEnds_0 : decode cX5_innerEnds 0 = .ok (.iconst 0, 1) := by decide +kernel
theorem dX5_innerEnds_1 : decode cX5_innerEnds 1 = .ok (.istore_n 3, 1) := by decide +kernel
theorem dX5_innerEnds_2 : decode cX5_innerEnds 2 = .ok (.iload_n 1, 1) := by decide +kernel
theorem dX5_innerEnds_3 : decode cX5_innerEnds 3 = .ok (.istore 4, 2) := by decide +kernel
theorem dX5_innerEnds_5 : decode cX5_innerEnds 5 = .ok (.iload 4, 2) := by decide +kernel
theorem dX5_innerEnds_7 : decode cX5_innerEnds 7 = .ok (.iload_n 2, 1) := by decide +kernel
theorem dX5_innerEnds_8 : decode cX5_innerEnds 8 = .ok (.iconst 1, 1) := by decide +kernel
theorem dX5_innerEnds_9 : decode cX5_innerEnds 9 = .ok (.isub, 1) := by decide +kernel
theorem dX5_innerEnds_10 : decode cX5_innerEnds 10 = .ok (.if_icmp .ge 24, 3) := by decide +kernel
theorem dX5_innerEnds_13 : decode cX5_innerEnds 13 = .ok (.aload_n 0, 1) := by decide +kernel
theorem dX5_innerEnds_14 : decode cX5_innerEnds 14 = .ok (.iload 4, 2) := by decide +kernel
theorem dX5_innerEnds_16 : decode cX5_innerEnds 16 = .ok (.sipush 512, 3) := by decide +kernel
theorem dX5_innerEnds_19 : decode cX5_innerEnds 19 = .ok (.invokevirtual 44, 3) := by decide +kernel
theorem dX5_innerEnds_22 : decode cX5_innerEnds 22 = .ok (.ifCond .eq 6, 3) := by decide +kernel
theorem dX5_innerEnds_25 : decode cX5_innerEnds 25 = .ok (.iinc 3 1, 3) := by decide +kernel
theorem dX5_innerEnds_28 : decode cX5_innerEnds 28 = .ok (.iinc 4 1, 3) := by decide +kernel
theorem dX5_innerEnds_31 : decode cX5_innerEnds 31 = .ok (.goto (-26), 3) := by decide +kernel
theorem dX5_innerEnds_34 : decode cX5_innerEnds 34 = .ok (.iload_n 3, 1) := by decide +kernel
theorem dX5_innerEnds_35 : decode cX5_innerEnds 35 = .ok (.ireturn, 1) := by decide +kernel
set_option maxRecDepth 20000 in
theorem ggX5_fitting_X5_has : GoodIn wsX5_fitting wsX5_has := goodIn_r _ [5, 6, 7, 8, 9, 10, 11, 12] (by decide +kernel) (by decide +kernel)
set_option maxRecDepth 20000 in
theorem gX5_fitting_X5_has : GoodIn wsX5_fitting (wsV RX5 44 RX5 yX5_has wsX5_has) := goodIn_app (goodIn_of _ (by decide +kernel)) ggX5_fitting_X5_has
theorem dX5_fitting_0 : decode cX5_fitting 0 = .ok (.iload_n 3, 1) := by decide +kernel
theorem dX5_fitting_1 : decode cX5_fitting 1 = .ok (.istore 4, 2) := by decide +kernel
theorem dX5_fitting_3 : decode cX5_fitting 3 = .ok (.iload_n 1, 1) := by decide +kernel
theorem dX5_fitting_4 : decode cX5_fitting 4 = .ok (.istore 5, 2) := by decide +kernel
theorem dX5_fitting_6 : decode cX5_fitting 6 = .ok (.iload 5, 2) := by decide +kernel
theorem dX5_fitting_8 : decode cX5_fitting 8 = .ok (.iload_n 2, 1) := by decide +kernel
theorem dX5_fitting_9 : decode cX5_fitting 9 = .ok (.if_icmp .ge 47, 3) := by decide +kernel
theorem dX5_fitting_12 : decode cX5_fitting 12 = .ok (.iload 4, 2) := by decide +kernel
theorem dX5_fitting_14 : decode cX5_fitting 14 = .ok (.iload 5, 2) := by decide +kernel
theorem dX5_fitting_16 : decode cX5_fitting 16 = .ok (.iload_n 1, 1) := by decide +kernel
theorem dX5_fitting_17 : decode cX5_fitting 17 = .ok (.if_icmp .le 21, 3) := by decide +kernel
theorem dX5_fitting_20 : decode cX5_fitting 20 = .ok (.aload_n 0, 1) := by decide +kernel
theorem dX5_fitting_21 : decode cX5_fitting 21 = .ok (.iload 5, 2) := by decide +kernel
theorem dX5_fitting_23 : decode cX5_fitting 23 = .ok (.iconst 1, 1) := by decide +kernel
theorem dX5_fitting_24 : decode cX5_fitting 24 = .ok (.isub, 1) := by decide +kernel
theorem dX5_fitting_25 : decode cX5_fitting 25 = .ok (.sipush 512, 3) := by decide +kernel
theorem dX5_fitting_28 : decode cX5_fitting 28 = .ok (.invokevirtual 44, 3) := by decide +kernel
theorem dX5_fitting_31 : decode cX5_fitting 31 = .ok (.ifCond .eq 7, 3) := by decide +kernel
theorem dX5_fitting_34 : decode cX5_fitting 34 = .ok (.iconst 2, 1) := by decide +kernel
theorem dX5_fitting_35 : decode cX5_fitting 35 = .ok (.goto 4, 3) := by decide +kernel
theorem dX5_fitting_38 : decode cX5_fitting 38 = .ok (.iconst 1, 1) := by decide +kernel
theorem dX5_fitting_39 : decode cX5_fitting 39 = .ok (.isub, 1) := by decide +kernel
theorem dX5_fitting_40 : decode cX5_fitting 40 = .ok (.istore 4, 2) := by decide +kernel
theorem dX5_fitting_42 : decode cX5_fitting 42 = .ok (.iload 4, 2) := by decide +kernel
theorem dX5_fitting_44 : decode cX5_fitting 44 = .ok (.ifCond .ge 6, 3) := by decide +kernel
theorem dX5_fitting_47 : decode cX5_fitting 47 = .ok (.iload 5, 2) := by decide +kernel
theorem dX5_fitting_49 : decode cX5_fitting 49 = .ok (.ireturn, 1) := by decide +kernel
theorem dX5_fitting_50 : decode cX5_fitting 50 = .ok (.iinc 5 1, 3) := by decide +kernel
theorem dX5_fitting_53 : decode cX5_fitting 53 = .ok (.goto (-47), 3) := by decide +kernel
theorem dX5_fitting_56 : decode cX5_fitting 56 = .ok (.iload_n 2, 1) := by decide +kernel
theorem dX5_fitting_57 : decode cX5_fitting 57 = .ok (.ireturn, 1) := by decide +kernel
theorem dX5_reach_0 : decode cX5_reach 0 = .ok (.aload_n 0, 1) := by decide +kernel
theorem dX5_reach_1 : decode cX5_reach 1 = .ok (.getfield 21, 3) := by decide +kernel
theorem dX5_reach_4 : decode cX5_reach 4 = .ok (.iconst (-1), 1) := by decide +kernel
theorem dX5_reach_5 : decode cX5_reach 5 = .ok (.if_icmp .ne 9, 3) := by decide +kernel
theorem dX5_reach_8 : decode cX5_reach 8 = .ok (.sipush 240, 3) := by decide +kernel
theorem dX5_reach_11 : decode cX5_reach 11 = .ok (.goto 7, 3) := by decide +kernel
theorem dX5_reach_14 : decode cX5_reach 14 = .ok (.aload_n 0, 1) := by decide +kernel
theorem dX5_reach_15 : decode cX5_reach 15 = .ok (.getfield 21, 3) := by decide +kernel
theorem dX5_reach_18 : decode cX5_reach 18 = .ok (.ireturn, 1) := by decide +kernel
set_option maxRecDepth 20000 in
theorem ggX5_missingRuns_X5_reach : GoodIn wsX5_missingRuns wsX5_reach := goodIn_r _ [5, 6, 16, 17, 18, 19, 20, 21] (by decide +kernel) (by decide +kernel)
set_option maxRecDepth 20000 in
theorem gX5_missingRuns_X5_reach : GoodIn wsX5_missingRuns (wsV RX5 48 RX5 yX5_reach wsX5_reach) := goodIn_app (goodIn_of _ (by decide +kernel)) ggX5_missingRuns_X5_reach
set_option maxRecDepth 20000 in
theorem ggX5_missingRuns_X5_nextMark : GoodIn wsX5_missingRuns wsX5_nextMark := goodIn_r _ [10, 11, 12, 13, 14, 15, 16, 17, 18, 19, 20, 21] (by decide +kernel) (by decide +kernel)
set_option maxRecDepth 20000 in
theorem gX5_missingRuns_X5_nextMark : GoodIn wsX5_missingRuns (wsV RX5 52 RX5 yX5_nextMark wsX5_nextMark) := goodIn_app (goodIn_of _ (by decide +kernel)) ggX5_missingRuns_X5_nextMark
theorem dX5_missingRuns_0 : decode cX5_missingRuns 0 = .ok (.iconst 0, 1) := by decide +kernel
theorem dX5_missingRuns_1 : decode cX5_missingRuns 1 = .ok (.istore_n 1, 1) := by decide +kernel
theorem dX5_missingRuns_2 : decode cX5_missingRuns 2 = .ok (.aload_n 0, 1) := by decide +kernel
theorem dX5_missingRuns_3 : decode cX5_missingRuns 3 = .ok (.iconst 0, 1) := by decide +kernel
theorem dX5_missingRuns_4 : decode cX5_missingRuns 4 = .ok (.aload_n 0, 1) := by decide +kernel
theorem dX5_missingRuns_5 : decode cX5_missingRuns 5 = .ok (.invokevirtual 48, 3) := by decide +kernel
theorem dX5_missingRuns_8 : decode cX5_missingRuns 8 = .ok (.iconst 0, 1) := by decide +kernel
theorem dX5_missingRuns_9 : decode cX5_missingRuns 9 = .ok (.invokevirtual 52, 3) := by decide +kernel
theorem dX5_missingRuns_12 : decode cX5_missingRuns 12 = .ok (.istore_n 2, 1) := by decide +kernel
theorem dX5_missingRuns_13 : decode cX5_missingRuns 13 = .ok (.iconst 0, 1) := by decide +kernel
theorem dX5_missingRuns_14 : decode cX5_missingRuns 14 = .ok (.istore_n 3, 1) := by decide +kernel
theorem dX5_missingRuns_15 : decode cX5_missingRuns 15 = .ok (.iload_n 3, 1) := by decide +kernel
theorem dX5_missingRuns_16 : decode cX5_missingRuns 16 = .ok (.sipush 240, 3) := by decide +kernel
theorem dX5_missingRuns_19 : decode cX5_missingRuns 19 = .ok (.if_icmp .ge 40, 3) := by decide +kernel
theorem dX5_missingRuns_22 : decode cX5_missingRuns 22 = .ok (.iload_n 2, 1) := by decide +kernel
theorem dX5_missingRuns_23 : decode cX5_missingRuns 23 = .ok (.aload_n 0, 1) := by decide +kernel
theorem dX5_missingRuns_24 : decode cX5_missingRuns 24 = .ok (.invokevirtual 48, 3) := by decide +kernel
theorem dX5_missingRuns_27 : decode cX5_missingRuns 27 = .ok (.if_icmp .ge 32, 3) := by decide +kernel
theorem dX5_missingRuns_30 : decode cX5_missingRuns 30 = .ok (.iinc 1 1, 3) := by decide +kernel
theorem dX5_missingRuns_33 : decode cX5_missingRuns 33 = .ok (.aload_n 0, 1) := by decide +kernel
theorem dX5_missingRuns_34 : decode cX5_missingRuns 34 = .ok (.aload_n 0, 1) := by decide +kernel
theorem dX5_missingRuns_35 : decode cX5_missingRuns 35 = .ok (.iload_n 2, 1) := by decide +kernel
theorem dX5_missingRuns_36 : decode cX5_missingRuns 36 = .ok (.aload_n 0, 1) := by decide +kernel
theorem dX5_missingRuns_37 : decode cX5_missingRuns 37 = .ok (.invokevirtual 48, 3) := by decide +kernel
theorem dX5_missingRuns_40 : decode cX5_missingRuns 40 = .ok (.iconst 1, 1) := by decide +kernel
theorem dX5_missingRuns_41 : decode cX5_missingRuns 41 = .ok (.invokevirtual 52, 3) := by decide +kernel
theorem dX5_missingRuns_44 : decode cX5_missingRuns 44 = .ok (.aload_n 0, 1) := by decide +kernel
theorem dX5_missingRuns_45 : decode cX5_missingRuns 45 = .ok (.invokevirtual 48, 3) := by decide +kernel
theorem dX5_missingRuns_48 : decode cX5_missingRuns 48 = .ok (.iconst 0, 1) := by decide +kernel
theorem dX5_missingRuns_49 : decode cX5_missingRuns 49 = .ok (.invokevirtual 52, 3) := by decide +kernel
theorem dX5_missingRuns_52 : decode cX5_missingRuns 52 = .ok (.istore_n 2, 1) := by decide +kernel
theorem dX5_missingRuns_53 : decode cX5_missingRuns 53 = .ok (.iinc 3 1, 3) := by decide +kernel
theorem dX5_missingRuns_56 : decode cX5_missingRuns 56 = .ok (.goto (-41), 3) := by decide +kernel
theorem dX5_missingRuns_59 : decode cX5_missingRuns 59 = .ok (.iload_n 1, 1) := by decide +kernel
theorem dX5_missingRuns_60 : decode cX5_missingRuns 60 = .ok (.ireturn, 1) := by decide +kernel
set_option maxRecDepth 20000 in
theorem ggX5_writeMissing_X5_reach : GoodIn wsX5_writeMissing wsX5_reach := goodIn_r _ [6, 1, 23, 24, 25, 26, 27, 28] (by decide +kernel) (by decide +kernel)
set_option maxRecDepth 20000 in
theorem gX5_writeMissing_X5_reach : GoodIn wsX5_writeMissing (wsV RX5 48 RX5 yX5_reach wsX5_reach) := goodIn_app (goodIn_of _ (by decide +kernel)) ggX5_writeMissing_X5_reach
set_option maxRecDepth 20000 in
theorem ggX5_writeMissing_X5_nextMark : GoodIn wsX5_writeMissing wsX5_nextMark := goodIn_r _ [10, 11, 12, 13, 14, 15, 23, 24, 25, 26, 27, 28] (by decide +kernel) (by decide +kernel)
set_option maxRecDepth 20000 in
theorem gX5_writeMissing_X5_nextMark : GoodIn wsX5_writeMissing (wsV RX5 52 RX5 yX5_nextMark wsX5_nextMark) := goodIn_app (goodIn_of _ (by decide +kernel)) ggX5_writeMissing_X5_nextMark
set_option maxRecDepth 20000 in
theorem ggX5_writeMissing_X0_put : GoodIn wsX5_writeMissing wsX0_put := goodIn_r _ [20, 21, 22, 29, 30] (by decide +kernel) (by decide +kernel)
set_option maxRecDepth 20000 in
theorem gX5_writeMissing_X0_put : GoodIn wsX5_writeMissing (wsV RX5 56 RX0 yX0_put wsX0_put) := goodIn_app (goodIn_of _ (by decide +kernel)) ggX5_writeMissing_X0_put
theorem dX5_writeMissing_0 : decode cX5_writeMissing 0 = .ok (.aload_n 0, 1) := by decide +kernel
theorem dX5_writeMissing_1 : decode cX5_writeMissing 1 = .ok (.iconst 0, 1) := by decide +kernel
theorem dX5_writeMissing_2 : decode cX5_writeMissing 2 = .ok (.aload_n 0, 1) := by decide +kernel
theorem dX5_writeMissing_3 : decode cX5_writeMissing 3 = .ok (.invokevirtual 48, 3) := by decide +kernel
theorem dX5_writeMissing_6 : decode cX5_writeMissing 6 = .ok (.iconst 0, 1) := by decide +kernel
theorem dX5_writeMissing_7 : decode cX5_writeMissing 7 = .ok (.invokevirtual 52, 3) := by decide +kernel
theorem dX5_writeMissing_10 : decode cX5_writeMissing 10 = .ok (.istore_n 3, 1) := by decide +kernel
theorem dX5_writeMissing_11 : decode cX5_writeMissing 11 = .ok (.iconst 0, 1) := by decide +kernel
theorem dX5_writeMissing_12 : decode cX5_writeMissing 12 = .ok (.istore 4, 2) := by decide +kernel
theorem dX5_writeMissing_14 : decode cX5_writeMissing 14 = .ok (.iload 4, 2) := by decide +kernel
theorem dX5_writeMissing_16 : decode cX5_writeMissing 16 = .ok (.sipush 240, 3) := by decide +kernel
theorem dX5_writeMissing_19 : decode cX5_writeMissing 19 = .ok (.if_icmp .ge 88, 3) := by decide +kernel
theorem dX5_writeMissing_22 : decode cX5_writeMissing 22 = .ok (.iload_n 3, 1) := by decide +kernel
theorem dX5_writeMissing_23 : decode cX5_writeMissing 23 = .ok (.aload_n 0, 1) := by decide +kernel
theorem dX5_writeMissing_24 : decode cX5_writeMissing 24 = .ok (.invokevirtual 48, 3) := by decide +kernel
theorem dX5_writeMissing_27 : decode cX5_writeMissing 27 = .ok (.if_icmp .ge 80, 3) := by decide +kernel
theorem dX5_writeMissing_30 : decode cX5_writeMissing 30 = .ok (.aload_n 0, 1) := by decide +kernel
theorem dX5_writeMissing_31 : decode cX5_writeMissing 31 = .ok (.iload_n 3, 1) := by decide +kernel
theorem dX5_writeMissing_32 : decode cX5_writeMissing 32 = .ok (.aload_n 0, 1) := by decide +kernel
theorem dX5_writeMissing_33 : decode cX5_writeMissing 33 = .ok (.invokevirtual 48, 3) := by decide +kernel
theorem dX5_writeMissing_36 : decode cX5_writeMissing 36 = .ok (.iconst 1, 1) := by decide +kernel
theorem dX5_writeMissing_37 : decode cX5_writeMissing 37 = .ok (.invokevirtual 52, 3) := by decide +kernel
theorem dX5_writeMissing_40 : decode cX5_writeMissing 40 = .ok (.istore 5, 2) := by decide +kernel
theorem dX5_writeMissing_42 : decode cX5_writeMissing 42 = .ok (.aload_n 1, 1) := by decide +kernel
theorem dX5_writeMissing_43 : decode cX5_writeMissing 43 = .ok (.iload_n 2, 1) := by decide +kernel
theorem dX5_writeMissing_44 : decode cX5_writeMissing 44 = .ok (.bipush 63, 2) := by decide +kernel
theorem dX5_writeMissing_46 : decode cX5_writeMissing 46 = .ok (.iand, 1) := by decide +kernel
theorem dX5_writeMissing_47 : decode cX5_writeMissing 47 = .ok (.sipush 128, 3) := by decide +kernel
theorem dX5_writeMissing_50 : decode cX5_writeMissing 50 = .ok (.iadd, 1) := by decide +kernel
theorem dX5_writeMissing_51 : decode cX5_writeMissing 51 = .ok (.invokevirtual 56, 3) := by decide +kernel
theorem dX5_writeMissing_54 : decode cX5_writeMissing 54 = .ok (.aload_n 1, 1) := by decide +kernel
theorem dX5_writeMissing_55 : decode cX5_writeMissing 55 = .ok (.iload_n 3, 1) := by decide +kernel
theorem dX5_writeMissing_56 : decode cX5_writeMissing 56 = .ok (.invokevirtual 56, 3) := by decide +kernel
theorem dX5_writeMissing_59 : decode cX5_writeMissing 59 = .ok (.aload_n 1, 1) := by decide +kernel
theorem dX5_writeMissing_60 : decode cX5_writeMissing 60 = .ok (.aload_n 0, 1) := by decide +kernel
theorem dX5_writeMissing_61 : decode cX5_writeMissing 61 = .ok (.getfield 21, 3) := by decide +kernel
theorem dX5_writeMissing_64 : decode cX5_writeMissing 64 = .ok (.iconst (-1), 1) := by decide +kernel
theorem dX5_writeMissing_65 : decode cX5_writeMissing 65 = .ok (.if_icmp .ne 17, 3) := by decide +kernel
theorem dX5_writeMissing_68 : decode cX5_writeMissing 68 = .ok (.iload 5, 2) := by decide +kernel
theorem dX5_writeMissing_70 : decode cX5_writeMissing 70 = .ok (.sipush 240, 3) := by decide +kernel
theorem dX5_writeMissing_73 : decode cX5_writeMissing 73 = .ok (.if_icmp .ne 9, 3) := by decide +kernel
theorem dX5_writeMissing_76 : decode cX5_writeMissing 76 = .ok (.sipush 255, 3) := by decide +kernel
theorem dX5_writeMissing_79 : decode cX5_writeMissing 79 = .ok (.goto 7, 3) := by decide +kernel
theorem dX5_writeMissing_82 : decode cX5_writeMissing 82 = .ok (.iload 5, 2) := by decide +kernel
theorem dX5_writeMissing_84 : decode cX5_writeMissing 84 = .ok (.iconst 1, 1) := by decide +kernel
theorem dX5_writeMissing_85 : decode cX5_writeMissing 85 = .ok (.isub, 1) := by decide +kernel
theorem dX5_writeMissing_86 : decode cX5_writeMissing 86 = .ok (.invokevirtual 56, 3) := by decide +kernel
theorem dX5_writeMissing_89 : decode cX5_writeMissing 89 = .ok (.aload_n 0, 1) := by decide +kernel
theorem dX5_writeMissing_90 : decode cX5_writeMissing 90 = .ok (.iload 5, 2) := by decide +kernel
theorem dX5_writeMissing_92 : decode cX5_writeMissing 92 = .ok (.aload_n 0, 1) := by decide +kernel
theorem dX5_writeMissing_93 : decode cX5_writeMissing 93 = .ok (.invokevirtual 48, 3) := by decide +kernel
theorem dX5_writeMissing_96 : decode cX5_writeMissing 96 = .ok (.iconst 0, 1) := by decide +kernel
theorem dX5_writeMissing_97 : decode cX5_writeMissing 97 = .ok (.invokevirtual 52, 3) := by decide +kernel
theorem dX5_writeMissing_100 : decode cX5_writeMissing 100 = .ok (.istore_n 3, 1) := by decide +kernel
theorem dX5_writeMissing_101 : decode cX5_writeMissing 101 = .ok (.iinc 4 1, 3) := by decide +kernel
theorem dX5_writeMissing_104 : decode cX5_writeMissing 104 = .ok (.goto (-90), 3) := by decide +kernel
theorem dX5_writeMissing_107 : decode cX5_writeMissing 107 = .ok (.return_, 1) := by decide +kernel
set_option maxRecDepth 20000 in
theorem ggX5_writeData_X5_innerEnds : GoodIn wsX5_writeData wsX5_innerEnds := goodIn_r _ [6, 7, 8, 9, 5, 10, 11, 27, 28, 29, 30, 31, 32] (by decide +kernel) (by decide +kernel)
set_option maxRecDepth 20000 in
theorem gX5_writeData_X5_innerEnds : GoodIn wsX5_writeData (wsV RX5 62 RX5 yX5_innerEnds wsX5_innerEnds) := goodIn_app (goodIn_of _ (by decide +kernel)) ggX5_writeData_X5_innerEnds
set_option maxRecDepth 20000 in
theorem ggX5_writeData_X5_has : GoodIn wsX5_writeData wsX5_has := goodIn_r _ [10, 11, 27, 28, 29, 30, 31, 32] (by decide +kernel) (by decide +kernel)
set_option maxRecDepth 20000 in
theorem gX5_writeData_X5_has : GoodIn wsX5_writeData (wsV RX5 44 RX5 yX5_has wsX5_has) := goodIn_app (goodIn_of _ (by decide +kernel)) ggX5_writeData_X5_has
set_option maxRecDepth 20000 in
theorem ggX5_writeData_X0_put : GoodIn wsX5_writeData wsX0_put := goodIn_r _ [16, 17, 18, 33, 34] (by decide +kernel) (by decide +kernel)
set_option maxRecDepth 20000 in
theorem gX5_writeData_X0_put : GoodIn wsX5_writeData (wsV RX5 56 RX0 yX0_put wsX0_put) := goodIn_app (goodIn_of _ (by decide +kernel)) ggX5_writeData_X0_put
set_option maxRecDepth 20000 in
theorem ggX5_writeData_X5_writeLengths : GoodIn wsX5_writeData wsX5_writeLengths := goodIn_r _ [22, 7, 8, 9, 5, 10, 11, 12, 13, 14, 15, 16, 17, 18, 27, 28, 29, 30, 31, 32, 33, 34] (by decide +kernel) (by decide +kernel)
set_option maxRecDepth 20000 in
theorem gX5_writeData_X5_writeLengths : GoodIn wsX5_writeData (wsV RX5 65 RX5 yX5_writeLengths wsX5_writeLengths) := goodIn_app (goodIn_of _ (by decide +kernel)) ggX5_writeData_X5_writeLengths
set_option maxRecDepth 20000 in
theorem ggX5_writeData_X5_cell : GoodIn wsX5_writeData wsX5_cell := goodIn_r _ [26, 11, 27, 28, 29, 30, 31, 32] (by decide +kernel) (by decide +kernel)
set_option maxRecDepth 20000 in
theorem gX5_writeData_X5_cell : GoodIn wsX5_writeData (wsV RX5 69 RX5 yX5_cell wsX5_cell) := goodIn_app (goodIn_of _ (by decide +kernel)) ggX5_writeData_X5_cell
theorem dX5_writeData_0 : decode cX5_writeData 0 = .ok (.iload_n 3, 1) := by decide +kernel
theorem dX5_writeData_1 : decode cX5_writeData 1 = .ok (.ifCond .gt 12, 3) := by decide +kernel
theorem dX5_writeData_4 : decode cX5_writeData 4 = .ok (.iload 4, 2) := by decide +kernel
theorem dX5_writeData_6 : decode cX5_writeData 6 = .ok (.aload_n 0, 1) := by decide +kernel
theorem dX5_writeData_7 : decode cX5_writeData 7 = .ok (.getfield 21, 3) := by decide +kernel
theorem dX5_writeData_10 : decode cX5_writeData 10 = .ok (.if_icmp .ge 7, 3) := by decide +kernel
theorem dX5_writeData_13 : decode cX5_writeData 13 = .ok (.iconst 1, 1) := by decide +kernel
theorem dX5_writeData_14 : decode cX5_writeData 14 = .ok (.goto 4, 3) := by decide +kernel
theorem dX5_writeData_17 : decode cX5_writeData 17 = .ok (.iconst 0, 1) := by decide +kernel
theorem dX5_writeData_18 : decode cX5_writeData 18 = .ok (.istore 6, 2) := by decide +kernel
theorem dX5_writeData_20 : decode cX5_writeData 20 = .ok (.aload_n 0, 1) := by decide +kernel
theorem dX5_writeData_21 : decode cX5_writeData 21 = .ok (.iload_n 3, 1) := by decide +kernel
theorem dX5_writeData_22 : decode cX5_writeData 22 = .ok (.iload 4, 2) := by decide +kernel
theorem dX5_writeData_24 : decode cX5_writeData 24 = .ok (.invokevirtual 62, 3) := by decide +kernel
theorem dX5_writeData_27 : decode cX5_writeData 27 = .ok (.istore 7, 2) := by decide +kernel
theorem dX5_writeData_29 : decode cX5_writeData 29 = .ok (.aload_n 1, 1) := by decide +kernel
theorem dX5_writeData_30 : decode cX5_writeData 30 = .ok (.sipush 128, 3) := by decide +kernel
theorem dX5_writeData_33 : decode cX5_writeData 33 = .ok (.iload 6, 2) := by decide +kernel
theorem dX5_writeData_35 : decode cX5_writeData 35 = .ok (.ifCond .eq 8, 3) := by decide +kernel
theorem dX5_writeData_38 : decode cX5_writeData 38 = .ok (.bipush 64, 2) := by decide +kernel
theorem dX5_writeData_40 : decode cX5_writeData 40 = .ok (.goto 4, 3) := by decide +kernel
theorem dX5_writeData_43 : decode cX5_writeData 43 = .ok (.iconst 0, 1) := by decide +kernel
theorem dX5_writeData_44 : decode cX5_writeData 44 = .ok (.iadd, 1) := by decide +kernel
theorem dX5_writeData_45 : decode cX5_writeData 45 = .ok (.iload 5, 2) := by decide +kernel
theorem dX5_writeData_47 : decode cX5_writeData 47 = .ok (.ifCond .eq 8, 3) := by decide +kernel
theorem dX5_writeData_50 : decode cX5_writeData 50 = .ok (.bipush 32, 2) := by decide +kernel
theorem dX5_writeData_52 : decode cX5_writeData 52 = .ok (.goto 4, 3) := by decide +kernel
theorem dX5_writeData_55 : decode cX5_writeData 55 = .ok (.iconst 0, 1) := by decide +kernel
theorem dX5_writeData_56 : decode cX5_writeData 56 = .ok (.iadd, 1) := by decide +kernel
theorem dX5_writeData_57 : decode cX5_writeData 57 = .ok (.aload_n 0, 1) := by decide +kernel
theorem dX5_writeData_58 : decode cX5_writeData 58 = .ok (.iload_n 3, 1) := by decide +kernel
theorem dX5_writeData_59 : decode cX5_writeData 59 = .ok (.sipush 256, 3) := by decide +kernel
theorem dX5_writeData_62 : decode cX5_writeData 62 = .ok (.invokevirtual 44, 3) := by decide +kernel
theorem dX5_writeData_65 : decode cX5_writeData 65 = .ok (.ifCond .eq 7, 3) := by decide +kernel
theorem dX5_writeData_68 : decode cX5_writeData 68 = .ok (.iconst 0, 1) := by decide +kernel
theorem dX5_writeData_69 : decode cX5_writeData 69 = .ok (.goto 5, 3) := by decide +kernel
theorem dX5_writeData_72 : decode cX5_writeData 72 = .ok (.bipush 16, 2) := by decide +kernel
theorem dX5_writeData_74 : decode cX5_writeData 74 = .ok (.iadd, 1) := by decide +kernel
theorem dX5_writeData_75 : decode cX5_writeData 75 = .ok (.aload_n 0, 1) := by decide +kernel
theorem dX5_writeData_76 : decode cX5_writeData 76 = .ok (.iload 4, 2) := by decide +kernel
theorem dX5_writeData_78 : decode cX5_writeData 78 = .ok (.iconst 1, 1) := by decide +kernel
theorem dX5_writeData_79 : decode cX5_writeData 79 = .ok (.isub, 1) := by decide +kernel
theorem dX5_writeData_80 : decode cX5_writeData 80 = .ok (.sipush 512, 3) := by decide +kernel
theorem dX5_writeData_83 : decode cX5_writeData 83 = .ok (.invokevirtual 44, 3) := by decide +kernel
theorem dX5_writeData_86 : decode cX5_writeData 86 = .ok (.ifCond .eq 7, 3) := by decide +kernel
theorem dX5_writeData_89 : decode cX5_writeData 89 = .ok (.iconst 0, 1) := by decide +kernel
theorem dX5_writeData_90 : decode cX5_writeData 90 = .ok (.goto 5, 3) := by decide +kernel
theorem dX5_writeData_93 : decode cX5_writeData 93 = .ok (.bipush 8, 2) := by decide +kernel
theorem dX5_writeData_95 : decode cX5_writeData 95 = .ok (.iadd, 1) := by decide +kernel
theorem dX5_writeData_96 : decode cX5_writeData 96 = .ok (.iload 7, 2) := by decide +kernel
theorem dX5_writeData_98 : decode cX5_writeData 98 = .ok (.ifCond .le 7, 3) := by decide +kernel
theorem dX5_writeData_101 : decode cX5_writeData 101 = .ok (.iconst 4, 1) := by decide +kernel
theorem dX5_writeData_102 : decode cX5_writeData 102 = .ok (.goto 4, 3) := by decide +kernel
theorem dX5_writeData_105 : decode cX5_writeData 105 = .ok (.iconst 0, 1) := by decide +kernel
theorem dX5_writeData_106 : decode cX5_writeData 106 = .ok (.iadd, 1) := by decide +kernel
theorem dX5_writeData_107 : decode cX5_writeData 107 = .ok (.invokevirtual 56, 3) := by decide +kernel
theorem dX5_writeData_110 : decode cX5_writeData 110 = .ok (.aload_n 1, 1) := by decide +kernel
theorem dX5_writeData_111 : decode cX5_writeData 111 = .ok (.iload_n 2, 1) := by decide +kernel
theorem dX5_writeData_112 : decode cX5_writeData 112 = .ok (.bipush 63, 2) := by decide +kernel
theorem dX5_writeData_114 : decode cX5_writeData 114 = .ok (.iand, 1) := by decide +kernel
theorem dX5_writeData_115 : decode cX5_writeData 115 = .ok (.iload 6, 2) := by decide +kernel
theorem dX5_writeData_117 : decode cX5_writeData 117 = .ok (.ifCond .eq 18, 3) := by decide +kernel
theorem dX5_writeData_120 : decode cX5_writeData 120 = .ok (.iload 4, 2) := by decide +kernel
theorem dX5_writeData_122 : decode cX5_writeData 122 = .ok (.aload_n 0, 1) := by decide +kernel
theorem dX5_writeData_123 : decode cX5_writeData 123 = .ok (.getfield 21, 3) := by decide +kernel
theorem dX5_writeData_126 : decode cX5_writeData 126 = .ok (.if_icmp .ne 9, 3) := by decide +kernel
theorem dX5_writeData_129 : decode cX5_writeData 129 = .ok (.sipush 128, 3) := by decide +kernel
theorem dX5_writeData_132 : decode cX5_writeData 132 = .ok (.goto 4, 3) := by decide +kernel
theorem dX5_writeData_135 : decode cX5_writeData 135 = .ok (.iconst 0, 1) := by decide +kernel
theorem dX5_writeData_136 : decode cX5_writeData 136 = .ok (.iadd, 1) := by decide +kernel
theorem dX5_writeData_137 : decode cX5_writeData 137 = .ok (.invokevirtual 56, 3) := by decide +kernel
theorem dX5_writeData_140 : decode cX5_writeData 140 = .ok (.iload 6, 2) := by decide +kernel
theorem dX5_writeData_142 : decode cX5_writeData 142 = .ok (.ifCond .eq 8, 3) := by decide +kernel
theorem dX5_writeData_145 : decode cX5_writeData 145 = .ok (.aload_n 1, 1) := by decide +kernel
theorem dX5_writeData_146 : decode cX5_writeData 146 = .ok (.iload_n 3, 1) := by decide +kernel
theorem dX5_writeData_147 : decode cX5_writeData 147 = .ok (.invokevirtual 56, 3) := by decide +kernel
theorem dX5_writeData_150 : decode cX5_writeData 150 = .ok (.aload_n 0, 1) := by decide +kernel
theorem dX5_writeData_151 : decode cX5_writeData 151 = .ok (.aload_n 1, 1) := by decide +kernel
theorem dX5_writeData_152 : decode cX5_writeData 152 = .ok (.iload_n 3, 1) := by decide +kernel
theorem dX5_writeData_153 : decode cX5_writeData 153 = .ok (.iload 4, 2) := by decide +kernel
theorem dX5_writeData_155 : decode cX5_writeData 155 = .ok (.iload 7, 2) := by decide +kernel
theorem dX5_writeData_157 : decode cX5_writeData 157 = .ok (.invokevirtual 65, 3) := by decide +kernel
theorem dX5_writeData_160 : decode cX5_writeData 160 = .ok (.iload_n 3, 1) := by decide +kernel
theorem dX5_writeData_161 : decode cX5_writeData 161 = .ok (.istore 8, 2) := by decide +kernel
theorem dX5_writeData_163 : decode cX5_writeData 163 = .ok (.iload 8, 2) := by decide +kernel
theorem dX5_writeData_165 : decode cX5_writeData 165 = .ok (.iload 4, 2) := by decide +kernel
theorem dX5_writeData_167 : decode cX5_writeData 167 = .ok (.if_icmp .ge 23, 3) := by decide +kernel
theorem dX5_writeData_170 : decode cX5_writeData 170 = .ok (.aload_n 1, 1) := by decide +kernel
theorem dX5_writeData_171 : decode cX5_writeData 171 = .ok (.aload_n 0, 1) := by decide +kernel
theorem dX5_writeData_172 : decode cX5_writeData 172 = .ok (.iload 8, 2) := by decide +kernel
theorem dX5_writeData_174 : decode cX5_writeData 174 = .ok (.invokevirtual 69, 3) := by decide +kernel
theorem dX5_writeData_177 : decode cX5_writeData 177 = .ok (.sipush 255, 3) := by decide +kernel
theorem dX5_writeData_180 : decode cX5_writeData 180 = .ok (.iand, 1) := by decide +kernel
theorem dX5_writeData_181 : decode cX5_writeData 181 = .ok (.invokevirtual 56, 3) := by decide +kernel
theorem dX5_writeData_184 : decode cX5_writeData 184 = .ok (.iinc 8 1, 3) := by decide +kernel
theorem dX5_writeData_187 : decode cX5_writeData 187 = .ok (.goto (-24), 3) := by decide +kernel
theorem dX5_writeData_190 : decode cX5_writeData 190 = .ok (.return_, 1) := by decide +kernel
set_option maxRecDepth 20000 in
theorem ggX5_writeLengths_X5_has : GoodIn wsX5_writeLengths wsX5_has := goodIn_r _ [5, 6, 14, 15, 16, 17, 18, 19] (by decide +kernel) (by decide +kernel)
set_option maxRecDepth 20000 in
theorem gX5_writeLengths_X5_has : GoodIn wsX5_writeLengths (wsV RX5 44 RX5 yX5_has wsX5_has) := goodIn_app (goodIn_of _ (by decide +kernel)) ggX5_writeLengths_X5_has
set_option maxRecDepth 20000 in
theorem ggX5_writeLengths_X0_put : GoodIn wsX5_writeLengths wsX0_put := goodIn_r _ [11, 12, 13, 20, 21] (by decide +kernel) (by decide +kernel)
set_option maxRecDepth 20000 in
theorem gX5_writeLengths_X0_put : GoodIn wsX5_writeLengths (wsV RX5 56 RX0 yX0_put wsX0_put) := goodIn_app (goodIn_of _ (by decide +kernel)) ggX5_writeLengths_X0_put
theorem dX5_writeLengths_0 : decode cX5_writeLengths 0 = .ok (.iload 4, 2) := by decide +kernel
theorem dX5_writeLengths_2 : decode cX5_writeLengths 2 = .ok (.istore 5, 2) := by decide +kernel
theorem dX5_writeLengths_4 : decode cX5_writeLengths 4 = .ok (.iload_n 2, 1) := by decide +kernel
theorem dX5_writeLengths_5 : decode cX5_writeLengths 5 = .ok (.istore 6, 2) := by decide +kernel
theorem dX5_writeLengths_7 : decode cX5_writeLengths 7 = .ok (.iload_n 2, 1) := by decide +kernel
theorem dX5_writeLengths_8 : decode cX5_writeLengths 8 = .ok (.istore 7, 2) := by decide +kernel
theorem dX5_writeLengths_10 : decode cX5_writeLengths 10 = .ok (.iload 7, 2) := by decide +kernel
theorem dX5_writeLengths_12 : decode cX5_writeLengths 12 = .ok (.iload_n 3, 1) := by decide +kernel
theorem dX5_writeLengths_13 : decode cX5_writeLengths 13 = .ok (.iconst 1, 1) := by decide +kernel
theorem dX5_writeLengths_14 : decode cX5_writeLengths 14 = .ok (.isub, 1) := by decide +kernel
theorem dX5_writeLengths_15 : decode cX5_writeLengths 15 = .ok (.if_icmp .ge 54, 3) := by decide +kernel
theorem dX5_writeLengths_18 : decode cX5_writeLengths 18 = .ok (.aload_n 0, 1) := by decide +kernel
theorem dX5_writeLengths_19 : decode cX5_writeLengths 19 = .ok (.iload 7, 2) := by decide +kernel
theorem dX5_writeLengths_21 : decode cX5_writeLengths 21 = .ok (.sipush 512, 3) := by decide +kernel
theorem dX5_writeLengths_24 : decode cX5_writeLengths 24 = .ok (.invokevirtual 44, 3) := by decide +kernel
theorem dX5_writeLengths_27 : decode cX5_writeLengths 27 = .ok (.ifCond .eq 36, 3) := by decide +kernel
theorem dX5_writeLengths_30 : decode cX5_writeLengths 30 = .ok (.iinc 5 (-1), 3) := by decide +kernel
theorem dX5_writeLengths_33 : decode cX5_writeLengths 33 = .ok (.aload_n 1, 1) := by decide +kernel
theorem dX5_writeLengths_34 : decode cX5_writeLengths 34 = .ok (.iload 7, 2) := by decide +kernel
theorem dX5_writeLengths_36 : decode cX5_writeLengths 36 = .ok (.iconst 1, 1) := by decide +kernel
theorem dX5_writeLengths_37 : decode cX5_writeLengths 37 = .ok (.iadd, 1) := by decide +kernel
theorem dX5_writeLengths_38 : decode cX5_writeLengths 38 = .ok (.iload 6, 2) := by decide +kernel
theorem dX5_writeLengths_40 : decode cX5_writeLengths 40 = .ok (.isub, 1) := by decide +kernel
theorem dX5_writeLengths_41 : decode cX5_writeLengths 41 = .ok (.iload 5, 2) := by decide +kernel
theorem dX5_writeLengths_43 : decode cX5_writeLengths 43 = .ok (.ifCond .le 9, 3) := by decide +kernel
theorem dX5_writeLengths_46 : decode cX5_writeLengths 46 = .ok (.sipush 128, 3) := by decide +kernel
theorem dX5_writeLengths_49 : decode cX5_writeLengths 49 = .ok (.goto 4, 3) := by decide +kernel
theorem dX5_writeLengths_52 : decode cX5_writeLengths 52 = .ok (.iconst 0, 1) := by decide +kernel
theorem dX5_writeLengths_53 : decode cX5_writeLengths 53 = .ok (.iadd, 1) := by decide +kernel
theorem dX5_writeLengths_54 : decode cX5_writeLengths 54 = .ok (.invokevirtual 56, 3) := by decide +kernel
theorem dX5_writeLengths_57 : decode cX5_writeLengths 57 = .ok (.iload 7, 2) := by decide +kernel
theorem dX5_writeLengths_59 : decode cX5_writeLengths 59 = .ok (.iconst 1, 1) := by decide +kernel
theorem dX5_writeLengths_60 : decode cX5_writeLengths 60 = .ok (.iadd, 1) := by decide +kernel
theorem dX5_writeLengths_61 : decode cX5_writeLengths 61 = .ok (.istore 6, 2) := by decide +kernel
theorem dX5_writeLengths_63 : decode cX5_writeLengths 63 = .ok (.iinc 7 1, 3) := by decide +kernel
theorem dX5_writeLengths_66 : decode cX5_writeLengths 66 = .ok (.goto (-56), 3) := by decide +kernel
theorem dX5_writeLengths_69 : decode cX5_writeLengths 69 = .ok (.return_, 1) := by decide +kernel
set_option maxRecDepth 20000 in
theorem ggX6_init_X3_init : GoodIn wsX6_init wsX3_init := goodIn_r _ [15, 16, 2, 3, 17, 18, 19, 20, 21, 22, 40, 41, 42, 43, 44, 45, 46, 47, 48, 49, 50, 51, 52] (by decide +kernel) (by decide +kernel)
set_option maxRecDepth 20000 in
theorem gX6_init_X3_init : GoodIn wsX6_init (wsX3_init) := ggX6_init_X3_init
set_option maxRecDepth 20000 in
theorem ggX6_init_X5_init : GoodIn wsX6_init wsX5_init := goodIn_r _ [24, 25, 2, 3, 17, 26, 53, 54, 55, 56, 57, 58] (by decide +kernel) (by decide +kernel)
set_option maxRecDepth 20000 in
theorem gX6_init_X5_init_n30 : GoodIn wsX6_init (wsX5_init) := ggX6_init_X5_init
theorem dX6_init_0 : decode cX6_init 0 = .ok (.aload_n 0, 1) := by decide +kernel
theorem dX6_init_1 : decode cX6_init 1 = .ok (.invokespecial 3, 3) := by decide +kernel
theorem dX6_init_4 : decode cX6_init 4 = .ok (.aload_n 0, 1) := by decide +kernel
theorem dX6_init_5 : decode cX6_init 5 = .ok (.bipush 32, 2) := by decide +kernel
theorem dX6_init_7 : decode cX6_init 7 = .ok (.anewarray 9, 3) := by decide +kernel
theorem dX6_init_10 : decode cX6_init 10 = .ok (.putfield 11, 3) := by decide +kernel
theorem dX6_init_13 : decode cX6_init 13 = .ok (.aload_n 0, 1) := by decide +kernel
theorem dX6_init_14 : decode cX6_init 14 = .ok (.iconst (-1), 1) := by decide +kernel
theorem dX6_init_15 : decode cX6_init 15 = .ok (.putfield 17, 3) := by decide +kernel
theorem dX6_init_18 : decode cX6_init 18 = .ok (.aload_n 0, 1) := by decide +kernel
theorem dX6_init_19 : decode cX6_init 19 = .ok (.new 21, 3) := by decide +kernel
theorem dX6_init_22 : decode cX6_init 22 = .ok (.dup, 1) := by decide +kernel
theorem dX6_init_23 : decode cX6_init 23 = .ok (.iload_n 1, 1) := by decide +kernel
theorem dX6_init_24 : decode cX6_init 24 = .ok (.invokespecial 23, 3) := by decide +kernel
theorem dX6_init_27 : decode cX6_init 27 = .ok (.putfield 26, 3) := by decide +kernel
theorem dX6_init_30 : decode cX6_init 30 = .ok (.iconst 0, 1) := by decide +kernel
theorem dX6_init_31 : decode cX6_init 31 = .ok (.istore_n 2, 1) := by decide +kernel
theorem dX6_init_32 : decode cX6_init 32 = .ok (.iload_n 2, 1) := by decide +kernel
theorem dX6_init_33 : decode cX6_init 33 = .ok (.aload_n 0, 1) := by decide +kernel
theorem dX6_init_34 : decode cX6_init 34 = .ok (.getfield 11, 3) := by decide +kernel
theorem dX6_init_37 : decode cX6_init 37 = .ok (.arraylength, 1) := by decide +kernel
theorem dX6_init_38 : decode cX6_init 38 = .ok (.if_icmp .ge 32, 3) := by decide +kernel
theorem dX6_init_41 : decode cX6_init 41 = .ok (.aload_n 0, 1) := by decide +kernel
theorem dX6_init_42 : decode cX6_init 42 = .ok (.getfield 11, 3) := by decide +kernel
theorem dX6_init_45 : decode cX6_init 45 = .ok (.iload_n 2, 1) := by decide +kernel
theorem dX6_init_46 : decode cX6_init 46 = .ok (.new 9, 3) := by decide +kernel
theorem dX6_init_49 : decode cX6_init 49 = .ok (.dup, 1) := by decide +kernel
theorem dX6_init_50 : decode cX6_init 50 = .ok (.invokespecial 30, 3) := by decide +kernel
theorem dX6_init_53 : decode cX6_init 53 = .ok (.aastore, 1) := by decide +kernel
theorem dX6_init_54 : decode cX6_init 54 = .ok (.aload_n 0, 1) := by decide +kernel
theorem dX6_init_55 : decode cX6_init 55 = .ok (.getfield 11, 3) := by decide +kernel
theorem dX6_init_58 : decode cX6_init 58 = .ok (.iload_n 2, 1) := by decide +kernel
theorem dX6_init_59 : decode cX6_init 59 = .ok (.aaload, 1) := by decide +kernel
theorem dX6_init_60 : decode cX6_init 60 = .ok (.iconst (-1), 1) := by decide +kernel
theorem dX6_init_61 : decode cX6_init 61 = .ok (.putfield 31, 3) := by decide +kernel
theorem dX6_init_64 : decode cX6_init 64 = .ok (.iinc 2 1, 3) := by decide +kernel
theorem dX6_init_67 : decode cX6_init 67 = .ok (.goto (-35), 3) := by decide +kernel
theorem dX6_init_70 : decode cX6_init 70 = .ok (.return_, 1) := by decide +kernel
theorem dX6_pieceAt_0 : decode cX6_pieceAt 0 = .ok (.aload_n 0, 1) := by decide +kernel
theorem dX6_pieceAt_1 : decode cX6_pieceAt 1 = .ok (.getfield 11, 3) := by decide +kernel
theorem dX6_pieceAt_4 : decode cX6_pieceAt 4 = .ok (.iload_n 1, 1) := by decide +kernel
theorem dX6_pieceAt_5 : decode cX6_pieceAt 5 = .ok (.bipush 31, 2) := by decide +kernel
theorem dX6_pieceAt_7 : decode cX6_pieceAt 7 = .ok (.iand, 1) := by decide +kernel
theorem dX6_pieceAt_8 : decode cX6_pieceAt 8 = .ok (.aaload, 1) := by decide +kernel
theorem dX6_pieceAt_9 : decode cX6_pieceAt 9 = .ok (.areturn, 1) := by decide +kernel
set_option maxRecDepth 20000 in
theorem ggX6_startAnew_X6_pieceAt : GoodIn wsX6_startAnew wsX6_pieceAt := goodIn_r _ [13, 14, 30, 31, 32, 33, 34, 35, 36, 37, 38, 39, 40, 41, 42] (by decide +kernel) (by decide +kernel)
set_option maxRecDepth 20000 in
theorem gX6_startAnew_X6_pieceAt : GoodIn wsX6_startAnew (wsV RX6 40 RX6 yX6_pieceAt wsX6_pieceAt) := goodIn_app (goodIn_of _ (by decide +kernel)) ggX6_startAnew_X6_pieceAt
set_option maxRecDepth 20000 in
theorem ggX6_startAnew_X5_clear : GoodIn wsX6_startAnew wsX5_clear := goodIn_r _ [19, 20, 21, 22, 23, 24, 25, 26, 27, 28, 29, 43, 44, 45, 46, 47, 48] (by decide +kernel) (by decide +kernel)
set_option maxRecDepth 20000 in
theorem gX6_startAnew_X5_clear : GoodIn wsX6_startAnew (wsV RX6 44 RX5 yX5_clear wsX5_clear) := goodIn_app (goodIn_of _ (by decide +kernel)) ggX6_startAnew_X5_clear
theorem dX6_startAnew_0 : decode cX6_startAnew 0 = .ok (.aload_n 0, 1) := by decide +kernel
theorem dX6_startAnew_1 : decode cX6_startAnew 1 = .ok (.getfield 34, 3) := by decide +kernel
theorem dX6_startAnew_4 : decode cX6_startAnew 4 = .ok (.istore_n 1, 1) := by decide +kernel
theorem dX6_startAnew_5 : decode cX6_startAnew 5 = .ok (.iload_n 1, 1) := by decide +kernel
theorem dX6_startAnew_6 : decode cX6_startAnew 6 = .ok (.aload_n 0, 1) := by decide +kernel
theorem dX6_startAnew_7 : decode cX6_startAnew 7 = .ok (.getfield 37, 3) := by decide +kernel
theorem dX6_startAnew_10 : decode cX6_startAnew 10 = .ok (.if_icmp .ge 18, 3) := by decide +kernel
theorem dX6_startAnew_13 : decode cX6_startAnew 13 = .ok (.aload_n 0, 1) := by decide +kernel
theorem dX6_startAnew_14 : decode cX6_startAnew 14 = .ok (.iload_n 1, 1) := by decide +kernel
theorem dX6_startAnew_15 : decode cX6_startAnew 15 = .ok (.invokevirtual 40, 3) := by decide +kernel
theorem dX6_startAnew_18 : decode cX6_startAnew 18 = .ok (.iconst (-1), 1) := by decide +kernel
theorem dX6_startAnew_19 : decode cX6_startAnew 19 = .ok (.invokevirtual 44, 3) := by decide +kernel
theorem dX6_startAnew_22 : decode cX6_startAnew 22 = .ok (.iinc 1 1, 3) := by decide +kernel
theorem dX6_startAnew_25 : decode cX6_startAnew 25 = .ok (.goto (-20), 3) := by decide +kernel
theorem dX6_startAnew_28 : decode cX6_startAnew 28 = .ok (.aload_n 0, 1) := by decide +kernel
theorem dX6_startAnew_29 : decode cX6_startAnew 29 = .ok (.iconst 0, 1) := by decide +kernel
theorem dX6_startAnew_30 : decode cX6_startAnew 30 = .ok (.putfield 34, 3) := by decide +kernel
theorem dX6_startAnew_33 : decode cX6_startAnew 33 = .ok (.aload_n 0, 1) := by decide +kernel
theorem dX6_startAnew_34 : decode cX6_startAnew 34 = .ok (.iconst 0, 1) := by decide +kernel
theorem dX6_startAnew_35 : decode cX6_startAnew 35 = .ok (.putfield 37, 3) := by decide +kernel
theorem dX6_startAnew_38 : decode cX6_startAnew 38 = .ok (.aload_n 0, 1) := by decide +kernel
theorem dX6_startAnew_39 : decode cX6_startAnew 39 = .ok (.iconst 0, 1) := by decide +kernel
theorem dX6_startAnew_40 : decode cX6_startAnew 40 = .ok (.putfield 47, 3) := by decide +kernel
theorem dX6_startAnew_43 : decode cX6_startAnew 43 = .ok (.aload_n 0, 1) := by decide +kernel
theorem dX6_startAnew_44 : decode cX6_startAnew 44 = .ok (.iconst 0, 1) := by decide +kernel
theorem dX6_startAnew_45 : decode cX6_startAnew 45 = .ok (.putfield 50, 3) := by decide +kernel
theorem dX6_startAnew_48 : decode cX6_startAnew 48 = .ok (.aload_n 0, 1) := by decide +kernel
theorem dX6_startAnew_49 : decode cX6_startAnew 49 = .ok (.iconst (-1), 1) := by decide +kernel
theorem dX6_startAnew_50 : decode cX6_startAnew 50 = .ok (.putfield 17, 3) := by decide +kernel
theorem dX6_startAnew_53 : decode cX6_startAnew 53 = .ok (.aload_n 0, 1) := by decide +kernel
theorem dX6_startAnew_54 : decode cX6_startAnew 54 = .ok (.iconst 0, 1) := by decide +kernel
theorem dX6_startAnew_55 : decode cX6_startAnew 55 = .ok (.putfield 53, 3) := by decide +kernel
theorem dX6_startAnew_58 : decode cX6_startAnew 58 = .ok (.aload_n 0, 1) := by decide +kernel
theorem dX6_startAnew_59 : decode cX6_startAnew 59 = .ok (.iconst 0, 1) := by decide +kernel
theorem dX6_startAnew_60 : decode cX6_startAnew 60 = .ok (.putfield 57, 3) := by decide +kernel
theorem dX6_startAnew_63 : decode cX6_startAnew 63 = .ok (.aload_n 0, 1) := by decide +kernel
theorem dX6_startAnew_64 : decode cX6_startAnew 64 = .ok (.iconst 0, 1) := by decide +kernel
theorem dX6_startAnew_65 : decode cX6_startAnew 65 = .ok (.putfield 60, 3) := by decide +kernel
theorem dX6_startAnew_68 : decode cX6_startAnew 68 = .ok (.return_, 1) := by decide +kernel
set_option maxRecDepth 20000 in
theorem ggX6_isWhole_X6_pieceAt : GoodIn wsX6_isWhole wsX6_pieceAt := goodIn_r _ [7, 8, 9, 10, 11, 12, 13, 14, 15, 16, 17, 18, 19, 20, 21] (by decide +kernel) (by decide +kernel)
set_option maxRecDepth 20000 in
theorem gX6_isWhole_X6_pieceAt : GoodIn wsX6_isWhole (wsV RX6 40 RX6 yX6_pieceAt wsX6_pieceAt) := goodIn_app (goodIn_of _ (by decide +kernel)) ggX6_isWhole_X6_pieceAt
theorem dX6_isWhole_0 : decode cX6_isWhole 0 = .ok (.aload_n 0, 1) := by decide +kernel
theorem dX6_isWhole_1 : decode cX6_isWhole 1 = .ok (.iload_n 1, 1) := by decide +kernel
theorem dX6_isWhole_2 : decode cX6_isWhole 2 = .ok (.invokevirtual 40, 3) := by decide +kernel
theorem dX6_isWhole_5 : decode cX6_isWhole 5 = .ok (.astore_n 2, 1) := by decide +kernel
theorem dX6_isWhole_6 : decode cX6_isWhole 6 = .ok (.iload_n 1, 1) := by decide +kernel
theorem dX6_isWhole_7 : decode cX6_isWhole 7 = .ok (.aload_n 0, 1) := by decide +kernel
theorem dX6_isWhole_8 : decode cX6_isWhole 8 = .ok (.getfield 34, 3) := by decide +kernel
theorem dX6_isWhole_11 : decode cX6_isWhole 11 = .ok (.if_icmp .lt 34, 3) := by decide +kernel
theorem dX6_isWhole_14 : decode cX6_isWhole 14 = .ok (.iload_n 1, 1) := by decide +kernel
theorem dX6_isWhole_15 : decode cX6_isWhole 15 = .ok (.aload_n 0, 1) := by decide +kernel
theorem dX6_isWhole_16 : decode cX6_isWhole 16 = .ok (.getfield 37, 3) := by decide +kernel
theorem dX6_isWhole_19 : decode cX6_isWhole 19 = .ok (.if_icmp .ge 26, 3) := by decide +kernel
theorem dX6_isWhole_22 : decode cX6_isWhole 22 = .ok (.aload_n 2, 1) := by decide +kernel
theorem dX6_isWhole_23 : decode cX6_isWhole 23 = .ok (.getfield 31, 3) := by decide +kernel
theorem dX6_isWhole_26 : decode cX6_isWhole 26 = .ok (.iconst (-1), 1) := by decide +kernel
theorem dX6_isWhole_27 : decode cX6_isWhole 27 = .ok (.if_icmp .eq 18, 3) := by decide +kernel
theorem dX6_isWhole_30 : decode cX6_isWhole 30 = .ok (.aload_n 2, 1) := by decide +kernel
theorem dX6_isWhole_31 : decode cX6_isWhole 31 = .ok (.getfield 63, 3) := by decide +kernel
theorem dX6_isWhole_34 : decode cX6_isWhole 34 = .ok (.aload_n 2, 1) := by decide +kernel
theorem dX6_isWhole_35 : decode cX6_isWhole 35 = .ok (.getfield 31, 3) := by decide +kernel
theorem dX6_isWhole_38 : decode cX6_isWhole 38 = .ok (.if_icmp .ne 7, 3) := by decide +kernel
theorem dX6_isWhole_41 : decode cX6_isWhole 41 = .ok (.iconst 1, 1) := by decide +kernel
theorem dX6_isWhole_42 : decode cX6_isWhole 42 = .ok (.goto 4, 3) := by decide +kernel
theorem dX6_isWhole_45 : decode cX6_isWhole 45 = .ok (.iconst 0, 1) := by decide +kernel
theorem dX6_isWhole_46 : decode cX6_isWhole 46 = .ok (.ireturn, 1) := by decide +kernel
set_option maxRecDepth 20000 in
theorem ggX6_heldBytes_X6_pieceAt : GoodIn wsX6_heldBytes wsX6_pieceAt := goodIn_r _ [7, 8, 9, 10, 11, 12, 13, 14, 15, 16, 17, 18, 19, 20, 21] (by decide +kernel) (by decide +kernel)
set_option maxRecDepth 20000 in
theorem gX6_heldBytes_X6_pieceAt : GoodIn wsX6_heldBytes (wsV RX6 40 RX6 yX6_pieceAt wsX6_pieceAt) := goodIn_app (goodIn_of _ (by decide +kernel)) ggX6_heldBytes_X6_pieceAt
theorem dX6_heldBytes_0 : decode cX6_heldBytes 0 = .ok (.iconst 0, 1) := by decide +kernel
theorem dX6_heldBytes_1 : decode cX6_heldBytes 1 = .ok (.istore_n 1, 1) := by decide +kernel
theorem dX6_heldBytes_2 : decode cX6_heldBytes 2 = .ok (.aload_n 0, 1) := by decide +kernel
theorem dX6_heldBytes_3 : decode cX6_heldBytes 3 = .ok (.getfield 34, 3) := by decide +kernel
theorem dX6_heldBytes_6 : decode cX6_heldBytes 6 = .ok (.istore_n 2, 1) := by decide +kernel
theorem dX6_heldBytes_7 : decode cX6_heldBytes 7 = .ok (.iload_n 2, 1) := by decide +kernel
theorem dX6_heldBytes_8 : decode cX6_heldBytes 8 = .ok (.aload_n 0, 1) := by decide +kernel
theorem dX6_heldBytes_9 : decode cX6_heldBytes 9 = .ok (.getfield 37, 3) := by decide +kernel
theorem dX6_heldBytes_12 : decode cX6_heldBytes 12 = .ok (.if_icmp .ge 20, 3) := by decide +kernel
theorem dX6_heldBytes_15 : decode cX6_heldBytes 15 = .ok (.iload_n 1, 1) := by decide +kernel
theorem dX6_heldBytes_16 : decode cX6_heldBytes 16 = .ok (.aload_n 0, 1) := by decide +kernel
theorem dX6_heldBytes_17 : decode cX6_heldBytes 17 = .ok (.iload_n 2, 1) := by decide +kernel
theorem dX6_heldBytes_18 : decode cX6_heldBytes 18 = .ok (.invokevirtual 40, 3) := by decide +kernel
