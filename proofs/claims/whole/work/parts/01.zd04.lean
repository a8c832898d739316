theorem dX9_makeStream_77 : decode cX9_makeStream 77 = .ok (.if_icmp .ge 7, 3) := by decide +kernel
theorem dX9_makeStream_80 : decode cX9_makeStream 80 = .ok (.iconst 0, 1) := by decide +kernel
theorem dX9_makeStream_81 : decode cX9_makeStream 81 = .ok (.goto 18, 3) := by decide +kernel
theorem dX9_makeStream_84 : decode cX9_makeStream 84 = .ok (.iload 5, 2) := by decide +kernel
theorem dX9_makeStream_86 : decode cX9_makeStream 86 = .ok (.bipush 8, 2) := by decide +kernel
theorem dX9_makeStream_88 : decode cX9_makeStream 88 = .ok (.bipush 15, 2) := by decide +kernel
theorem dX9_makeStream_90 : decode cX9_makeStream 90 = .ok (.iload 6, 2) := by decide +kernel
theorem dX9_makeStream_92 : decode cX9_makeStream 92 = .ok (.isub, 1) := by decide +kernel
theorem dX9_makeStream_93 : decode cX9_makeStream 93 = .ok (.imul, 1) := by decide +kernel
theorem dX9_makeStream_94 : decode cX9_makeStream 94 = .ok (.ishr, 1) := by decide +kernel
theorem dX9_makeStream_95 : decode cX9_makeStream 95 = .ok (.sipush 255, 3) := by decide +kernel
theorem dX9_makeStream_98 : decode cX9_makeStream 98 = .ok (.iand, 1) := by decide +kernel
theorem dX9_makeStream_99 : decode cX9_makeStream 99 = .ok (.iastore, 1) := by decide +kernel
theorem dX9_makeStream_100 : decode cX9_makeStream 100 = .ok (.iinc 6 1, 3) := by decide +kernel
theorem dX9_makeStream_103 : decode cX9_makeStream 103 = .ok (.goto (-83), 3) := by decide +kernel
theorem dX9_makeStream_106 : decode cX9_makeStream 106 = .ok (.aload_n 0, 1) := by decide +kernel
theorem dX9_makeStream_107 : decode cX9_makeStream 107 = .ok (.invokevirtual 252, 3) := by decide +kernel
theorem dX9_makeStream_110 : decode cX9_makeStream 110 = .ok (.iconst 0, 1) := by decide +kernel
theorem dX9_makeStream_111 : decode cX9_makeStream 111 = .ok (.istore 6, 2) := by decide +kernel
theorem dX9_makeStream_113 : decode cX9_makeStream 113 = .ok (.iload 6, 2) := by decide +kernel
theorem dX9_makeStream_115 : decode cX9_makeStream 115 = .ok (.bipush 16, 2) := by decide +kernel
theorem dX9_makeStream_117 : decode cX9_makeStream 117 = .ok (.if_icmp .ge 29, 3) := by decide +kernel
theorem dX9_makeStream_120 : decode cX9_makeStream 120 = .ok (.aload_n 0, 1) := by decide +kernel
theorem dX9_makeStream_121 : decode cX9_makeStream 121 = .ok (.getfield 222, 3) := by decide +kernel
theorem dX9_makeStream_124 : decode cX9_makeStream 124 = .ok (.bipush 16, 2) := by decide +kernel
theorem dX9_makeStream_126 : decode cX9_makeStream 126 = .ok (.iload 5, 2) := by decide +kernel
theorem dX9_makeStream_128 : decode cX9_makeStream 128 = .ok (.imul, 1) := by decide +kernel
theorem dX9_makeStream_129 : decode cX9_makeStream 129 = .ok (.iload 6, 2) := by decide +kernel
theorem dX9_makeStream_131 : decode cX9_makeStream 131 = .ok (.iadd, 1) := by decide +kernel
theorem dX9_makeStream_132 : decode cX9_makeStream 132 = .ok (.aload_n 0, 1) := by decide +kernel
theorem dX9_makeStream_133 : decode cX9_makeStream 133 = .ok (.getfield 216, 3) := by decide +kernel
theorem dX9_makeStream_136 : decode cX9_makeStream 136 = .ok (.iload 6, 2) := by decide +kernel
theorem dX9_makeStream_138 : decode cX9_makeStream 138 = .ok (.iaload, 1) := by decide +kernel
theorem dX9_makeStream_139 : decode cX9_makeStream 139 = .ok (.iastore, 1) := by decide +kernel
theorem dX9_makeStream_140 : decode cX9_makeStream 140 = .ok (.iinc 6 1, 3) := by decide +kernel
theorem dX9_makeStream_143 : decode cX9_makeStream 143 = .ok (.goto (-30), 3) := by decide +kernel
theorem dX9_makeStream_146 : decode cX9_makeStream 146 = .ok (.iinc 5 1, 3) := by decide +kernel
theorem dX9_makeStream_149 : decode cX9_makeStream 149 = .ok (.goto (-142), 3) := by decide +kernel
theorem dX9_makeStream_152 : decode cX9_makeStream 152 = .ok (.return_, 1) := by decide +kernel
theorem dX9_feed_0 : decode cX9_feed 0 = .ok (.aload_n 0, 1) := by decide +kernel
theorem dX9_feed_1 : decode cX9_feed 1 = .ok (.getfield 255, 3) := by decide +kernel
theorem dX9_feed_4 : decode cX9_feed 4 = .ok (.bipush 20, 2) := by decide +kernel
theorem dX9_feed_6 : decode cX9_feed 6 = .ok (.iadd, 1) := by decide +kernel
theorem dX9_feed_7 : decode cX9_feed 7 = .ok (.bipush 120, 2) := by decide +kernel
theorem dX9_feed_9 : decode cX9_feed 9 = .ok (.if_icmp .le 5, 3) := by decide +kernel
theorem dX9_feed_12 : decode cX9_feed 12 = .ok (.iconst (-1), 1) := by decide +kernel
theorem dX9_feed_13 : decode cX9_feed 13 = .ok (.ireturn, 1) := by decide +kernel
theorem dX9_feed_14 : decode cX9_feed 14 = .ok (.iconst 0, 1) := by decide +kernel
theorem dX9_feed_15 : decode cX9_feed 15 = .ok (.istore 6, 2) := by decide +kernel
theorem dX9_feed_17 : decode cX9_feed 17 = .ok (.iload 6, 2) := by decide +kernel
theorem dX9_feed_19 : decode cX9_feed 19 = .ok (.bipush 20, 2) := by decide +kernel
theorem dX9_feed_21 : decode cX9_feed 21 = .ok (.if_icmp .ge 86, 3) := by decide +kernel
theorem dX9_feed_24 : decode cX9_feed 24 = .ok (.iload 6, 2) := by decide +kernel
theorem dX9_feed_26 : decode cX9_feed 26 = .ok (.iconst 4, 1) := by decide +kernel
theorem dX9_feed_27 : decode cX9_feed 27 = .ok (.if_icmp .ge 7, 3) := by decide +kernel
theorem dX9_feed_30 : decode cX9_feed 30 = .ok (.iload_n 1, 1) := by decide +kernel
theorem dX9_feed_31 : decode cX9_feed 31 = .ok (.goto 39, 3) := by decide +kernel
theorem dX9_feed_34 : decode cX9_feed 34 = .ok (.iload 6, 2) := by decide +kernel
theorem dX9_feed_36 : decode cX9_feed 36 = .ok (.bipush 8, 2) := by decide +kernel
theorem dX9_feed_38 : decode cX9_feed 38 = .ok (.if_icmp .ge 7, 3) := by decide +kernel
theorem dX9_feed_41 : decode cX9_feed 41 = .ok (.iload_n 2, 1) := by decide +kernel
theorem dX9_feed_42 : decode cX9_feed 42 = .ok (.goto 28, 3) := by decide +kernel
theorem dX9_feed_45 : decode cX9_feed 45 = .ok (.iload 6, 2) := by decide +kernel
theorem dX9_feed_47 : decode cX9_feed 47 = .ok (.bipush 12, 2) := by decide +kernel
theorem dX9_feed_49 : decode cX9_feed 49 = .ok (.if_icmp .ge 7, 3) := by decide +kernel
theorem dX9_feed_52 : decode cX9_feed 52 = .ok (.iload_n 3, 1) := by decide +kernel
theorem dX9_feed_53 : decode cX9_feed 53 = .ok (.goto 17, 3) := by decide +kernel
theorem dX9_feed_56 : decode cX9_feed 56 = .ok (.iload 6, 2) := by decide +kernel
theorem dX9_feed_58 : decode cX9_feed 58 = .ok (.bipush 16, 2) := by decide +kernel
theorem dX9_feed_60 : decode cX9_feed 60 = .ok (.if_icmp .ge 8, 3) := by decide +kernel
theorem dX9_feed_63 : decode cX9_feed 63 = .ok (.iload 4, 2) := by decide +kernel
theorem dX9_feed_65 : decode cX9_feed 65 = .ok (.goto 5, 3) := by decide +kernel
theorem dX9_feed_68 : decode cX9_feed 68 = .ok (.iload 5, 2) := by decide +kernel
theorem dX9_feed_70 : decode cX9_feed 70 = .ok (.istore 7, 2) := by decide +kernel
theorem dX9_feed_72 : decode cX9_feed 72 = .ok (.aload_n 0, 1) := by decide +kernel
theorem dX9_feed_73 : decode cX9_feed 73 = .ok (.getfield 9, 3) := by decide +kernel
theorem dX9_feed_76 : decode cX9_feed 76 = .ok (.aload_n 0, 1) := by decide +kernel
theorem dX9_feed_77 : decode cX9_feed 77 = .ok (.getfield 255, 3) := by decide +kernel
theorem dX9_feed_80 : decode cX9_feed 80 = .ok (.iload 6, 2) := by decide +kernel
theorem dX9_feed_82 : decode cX9_feed 82 = .ok (.iadd, 1) := by decide +kernel
theorem dX9_feed_83 : decode cX9_feed 83 = .ok (.iload 7, 2) := by decide +kernel
theorem dX9_feed_85 : decode cX9_feed 85 = .ok (.bipush 24, 2) := by decide +kernel
theorem dX9_feed_87 : decode cX9_feed 87 = .ok (.bipush 8, 2) := by decide +kernel
theorem dX9_feed_89 : decode cX9_feed 89 = .ok (.iload 6, 2) := by decide +kernel
theorem dX9_feed_91 : decode cX9_feed 91 = .ok (.iconst 4, 1) := by decide +kernel
theorem dX9_feed_92 : decode cX9_feed 92 = .ok (.irem, 1) := by decide +kernel
theorem dX9_feed_93 : decode cX9_feed 93 = .ok (.imul, 1) := by decide +kernel
theorem dX9_feed_94 : decode cX9_feed 94 = .ok (.isub, 1) := by decide +kernel
theorem dX9_feed_95 : decode cX9_feed 95 = .ok (.ishr, 1) := by decide +kernel
theorem dX9_feed_96 : decode cX9_feed 96 = .ok (.sipush 255, 3) := by decide +kernel
theorem dX9_feed_99 : decode cX9_feed 99 = .ok (.iand, 1) := by decide +kernel
theorem dX9_feed_100 : decode cX9_feed 100 = .ok (.iastore, 1) := by decide +kernel
theorem dX9_feed_101 : decode cX9_feed 101 = .ok (.iinc 6 1, 3) := by decide +kernel
theorem dX9_feed_104 : decode cX9_feed 104 = .ok (.goto (-87), 3) := by decide +kernel
theorem dX9_feed_107 : decode cX9_feed 107 = .ok (.aload_n 0, 1) := by decide +kernel
theorem dX9_feed_108 : decode cX9_feed 108 = .ok (.dup, 1) := by decide +kernel
theorem dX9_feed_109 : decode cX9_feed 109 = .ok (.getfield 255, 3) := by decide +kernel
theorem dX9_feed_112 : decode cX9_feed 112 = .ok (.bipush 20, 2) := by decide +kernel
theorem dX9_feed_114 : decode cX9_feed 114 = .ok (.iadd, 1) := by decide +kernel
theorem dX9_feed_115 : decode cX9_feed 115 = .ok (.putfield 255, 3) := by decide +kernel
theorem dX9_feed_118 : decode cX9_feed 118 = .ok (.aload_n 0, 1) := by decide +kernel
theorem dX9_feed_119 : decode cX9_feed 119 = .ok (.getfield 255, 3) := by decide +kernel
theorem dX9_feed_122 : decode cX9_feed 122 = .ok (.ireturn, 1) := by decide +kernel
theorem dX9_end_0 : decode cX9_end 0 = .ok (.iload_n 1, 1) := by decide +kernel
theorem dX9_end_1 : decode cX9_end 1 = .ok (.ifCond .lt 11, 3) := by decide +kernel
theorem dX9_end_4 : decode cX9_end 4 = .ok (.iload_n 1, 1) := by decide +kernel
theorem dX9_end_5 : decode cX9_end 5 = .ok (.aload_n 0, 1) := by decide +kernel
theorem dX9_end_6 : decode cX9_end 6 = .ok (.getfield 255, 3) := by decide +kernel
theorem dX9_end_9 : decode cX9_end 9 = .ok (.if_icmp .le 5, 3) := by decide +kernel
theorem dX9_end_12 : decode cX9_end 12 = .ok (.iconst (-1), 1) := by decide +kernel
theorem dX9_end_13 : decode cX9_end 13 = .ok (.ireturn, 1) := by decide +kernel
theorem dX9_end_14 : decode cX9_end 14 = .ok (.aload_n 0, 1) := by decide +kernel
theorem dX9_end_15 : decode cX9_end 15 = .ok (.iload_n 1, 1) := by decide +kernel
theorem dX9_end_16 : decode cX9_end 16 = .ok (.putfield 255, 3) := by decide +kernel
theorem dX9_end_19 : decode cX9_end 19 = .ok (.iload_n 1, 1) := by decide +kernel
theorem dX9_end_20 : decode cX9_end 20 = .ok (.ireturn, 1) := by decide +kernel
theorem dX9_lowest_0 : decode cX9_lowest 0 = .ok (.aload_n 0, 1) := by decide +kernel
theorem dX9_lowest_1 : decode cX9_lowest 1 = .ok (.getfield 13, 3) := by decide +kernel
theorem dX9_lowest_4 : decode cX9_lowest 4 = .ok (.iload_n 1, 1) := by decide +kernel
theorem dX9_lowest_5 : decode cX9_lowest 5 = .ok (.iaload, 1) := by decide +kernel
theorem dX9_lowest_6 : decode cX9_lowest 6 = .ok (.bipush 24, 2) := by decide +kernel
theorem dX9_lowest_8 : decode cX9_lowest 8 = .ok (.isub, 1) := by decide +kernel
theorem dX9_lowest_9 : decode cX9_lowest 9 = .ok (.ifCond .ge 7, 3) := by decide +kernel
theorem dX9_lowest_12 : decode cX9_lowest 12 = .ok (.iconst 0, 1) := by decide +kernel
theorem dX9_lowest_13 : decode cX9_lowest 13 = .ok (.goto 12, 3) := by decide +kernel
theorem dX9_lowest_16 : decode cX9_lowest 16 = .ok (.aload_n 0, 1) := by decide +kernel
theorem dX9_lowest_17 : decode cX9_lowest 17 = .ok (.getfield 13, 3) := by decide +kernel
theorem dX9_lowest_20 : decode cX9_lowest 20 = .ok (.iload_n 1, 1) := by decide +kernel
theorem dX9_lowest_21 : decode cX9_lowest 21 = .ok (.iaload, 1) := by decide +kernel
theorem dX9_lowest_22 : decode cX9_lowest 22 = .ok (.bipush 24, 2) := by decide +kernel
theorem dX9_lowest_24 : decode cX9_lowest 24 = .ok (.isub, 1) := by decide +kernel
theorem dX9_lowest_25 : decode cX9_lowest 25 = .ok (.istore_n 2, 1) := by decide +kernel
theorem dX9_lowest_26 : decode cX9_lowest 26 = .ok (.iload_n 2, 1) := by decide +kernel
theorem dX9_lowest_27 : decode cX9_lowest 27 = .ok (.aload_n 0, 1) := by decide +kernel
theorem dX9_lowest_28 : decode cX9_lowest 28 = .ok (.getfield 13, 3) := by decide +kernel
theorem dX9_lowest_31 : decode cX9_lowest 31 = .ok (.iload_n 1, 1) := by decide +kernel
theorem dX9_lowest_32 : decode cX9_lowest 32 = .ok (.iaload, 1) := by decide +kernel
theorem dX9_lowest_33 : decode cX9_lowest 33 = .ok (.if_icmp .ge 26, 3) := by decide +kernel
theorem dX9_lowest_36 : decode cX9_lowest 36 = .ok (.aload_n 0, 1) := by decide +kernel
theorem dX9_lowest_37 : decode cX9_lowest 37 = .ok (.getfield 53, 3) := by decide +kernel
theorem dX9_lowest_40 : decode cX9_lowest 40 = .ok (.bipush 32, 2) := by decide +kernel
theorem dX9_lowest_42 : decode cX9_lowest 42 = .ok (.iload_n 1, 1) := by decide +kernel
theorem dX9_lowest_43 : decode cX9_lowest 43 = .ok (.imul, 1) := by decide +kernel
theorem dX9_lowest_44 : decode cX9_lowest 44 = .ok (.iload_n 2, 1) := by decide +kernel
theorem dX9_lowest_45 : decode cX9_lowest 45 = .ok (.bipush 31, 2) := by decide +kernel
theorem dX9_lowest_47 : decode cX9_lowest 47 = .ok (.iand, 1) := by decide +kernel
theorem dX9_lowest_48 : decode cX9_lowest 48 = .ok (.iadd, 1) := by decide +kernel
theorem dX9_lowest_49 : decode cX9_lowest 49 = .ok (.baload, 1) := by decide +kernel
theorem dX9_lowest_50 : decode cX9_lowest 50 = .ok (.ifCond .ne 9, 3) := by decide +kernel
theorem dX9_lowest_53 : decode cX9_lowest 53 = .ok (.iinc 2 1, 3) := by decide +kernel
theorem dX9_lowest_56 : decode cX9_lowest 56 = .ok (.goto (-30), 3) := by decide +kernel
theorem dX9_lowest_59 : decode cX9_lowest 59 = .ok (.iload_n 2, 1) := by decide +kernel
theorem dX9_lowest_60 : decode cX9_lowest 60 = .ok (.ireturn, 1) := by decide +kernel
theorem dX9_await_0 : decode cX9_await 0 = .ok (.sipush 4400, 3) := by decide +kernel
theorem dX9_await_3 : decode cX9_await 3 = .ok (.iload_n 1, 1) := by decide +kernel
theorem dX9_await_4 : decode cX9_await 4 = .ok (.imul, 1) := by decide +kernel
theorem dX9_await_5 : decode cX9_await 5 = .ok (.aload_n 0, 1) := by decide +kernel
theorem dX9_await_6 : decode cX9_await 6 = .ok (.getfield 74, 3) := by decide +kernel
theorem dX9_await_9 : decode cX9_await 9 = .ok (.iload_n 1, 1) := by decide +kernel
theorem dX9_await_10 : decode cX9_await 10 = .ok (.iaload, 1) := by decide +kernel
theorem dX9_await_11 : decode cX9_await 11 = .ok (.iadd, 1) := by decide +kernel
theorem dX9_await_12 : decode cX9_await 12 = .ok (.istore 6, 2) := by decide +kernel
theorem dX9_await_14 : decode cX9_await 14 = .ok (.aload_n 0, 1) := by decide +kernel
theorem dX9_await_15 : decode cX9_await 15 = .ok (.getfield 68, 3) := by decide +kernel
theorem dX9_await_18 : decode cX9_await 18 = .ok (.iload 6, 2) := by decide +kernel
theorem dX9_await_20 : decode cX9_await 20 = .ok (.iload_n 2, 1) := by decide +kernel
theorem dX9_await_21 : decode cX9_await 21 = .ok (.iastore, 1) := by decide +kernel
theorem dX9_await_22 : decode cX9_await 22 = .ok (.aload_n 0, 1) := by decide +kernel
theorem dX9_await_23 : decode cX9_await 23 = .ok (.getfield 71, 3) := by decide +kernel
theorem dX9_await_26 : decode cX9_await 26 = .ok (.iload 6, 2) := by decide +kernel
theorem dX9_await_28 : decode cX9_await 28 = .ok (.iload_n 3, 1) := by decide +kernel
theorem dX9_await_29 : decode cX9_await 29 = .ok (.iastore, 1) := by decide +kernel
theorem dX9_await_30 : decode cX9_await 30 = .ok (.aload_n 0, 1) := by decide +kernel
theorem dX9_await_31 : decode cX9_await 31 = .ok (.getfield 77, 3) := by decide +kernel
theorem dX9_await_34 : decode cX9_await 34 = .ok (.iload 6, 2) := by decide +kernel
theorem dX9_await_36 : decode cX9_await 36 = .ok (.iload 4, 2) := by decide +kernel
theorem dX9_await_38 : decode cX9_await 38 = .ok (.bastore, 1) := by decide +kernel
theorem dX9_await_39 : decode cX9_await 39 = .ok (.aload_n 0, 1) := by decide +kernel
theorem dX9_await_40 : decode cX9_await 40 = .ok (.getfield 80, 3) := by decide +kernel
theorem dX9_await_43 : decode cX9_await 43 = .ok (.iload 6, 2) := by decide +kernel
theorem dX9_await_45 : decode cX9_await 45 = .ok (.iload 5, 2) := by decide +kernel
theorem dX9_await_47 : decode cX9_await 47 = .ok (.bastore, 1) := by decide +kernel
theorem dX9_await_48 : decode cX9_await 48 = .ok (.aload_n 0, 1) := by decide +kernel
theorem dX9_await_49 : decode cX9_await 49 = .ok (.getfield 74, 3) := by decide +kernel
theorem dX9_await_52 : decode cX9_await 52 = .ok (.iload_n 1, 1) := by decide +kernel
theorem dX9_await_53 : decode cX9_await 53 = .ok (.dup2, 1) := by decide +kernel
theorem dX9_await_54 : decode cX9_await 54 = .ok (.iaload, 1) := by decide +kernel
theorem dX9_await_55 : decode cX9_await 55 = .ok (.iconst 1, 1) := by decide +kernel
theorem dX9_await_56 : decode cX9_await 56 = .ok (.iadd, 1) := by decide +kernel
theorem dX9_await_57 : decode cX9_await 57 = .ok (.iastore, 1) := by decide +kernel
theorem dX9_await_58 : decode cX9_await 58 = .ok (.return_, 1) := by decide +kernel
theorem dX9_awaitUnit_0 : decode cX9_awaitUnit 0 = .ok (.iload_n 1, 1) := by decide +kernel
theorem dX9_awaitUnit_1 : decode cX9_awaitUnit 1 = .ok (.iload_n 2, 1) := by decide +kernel
theorem dX9_awaitUnit_2 : decode cX9_awaitUnit 2 = .ok (.invokestatic 258, 3) := by decide +kernel
theorem dX9_awaitUnit_5 : decode cX9_awaitUnit 5 = .ok (.istore 4, 2) := by decide +kernel
theorem dX9_awaitUnit_7 : decode cX9_awaitUnit 7 = .ok (.bipush 32, 2) := by decide +kernel
theorem dX9_awaitUnit_9 : decode cX9_awaitUnit 9 = .ok (.iload 4, 2) := by decide +kernel
theorem dX9_awaitUnit_11 : decode cX9_awaitUnit 11 = .ok (.imul, 1) := by decide +kernel
theorem dX9_awaitUnit_12 : decode cX9_awaitUnit 12 = .ok (.iload_n 3, 1) := by decide +kernel
theorem dX9_awaitUnit_13 : decode cX9_awaitUnit 13 = .ok (.bipush 31, 2) := by decide +kernel
theorem dX9_awaitUnit_15 : decode cX9_awaitUnit 15 = .ok (.iand, 1) := by decide +kernel
theorem dX9_awaitUnit_16 : decode cX9_awaitUnit 16 = .ok (.iadd, 1) := by decide +kernel
theorem dX9_awaitUnit_17 : decode cX9_awaitUnit 17 = .ok (.istore 5, 2) := by decide +kernel
theorem dX9_awaitUnit_19 : decode cX9_awaitUnit 19 = .ok (.aload_n 0, 1) := by decide +kernel
theorem dX9_awaitUnit_20 : decode cX9_awaitUnit 20 = .ok (.getfield 56, 3) := by decide +kernel
theorem dX9_awaitUnit_23 : decode cX9_awaitUnit 23 = .ok (.iload 5, 2) := by decide +kernel
theorem dX9_awaitUnit_25 : decode cX9_awaitUnit 25 = .ok (.iaload, 1) := by decide +kernel
theorem dX9_awaitUnit_26 : decode cX9_awaitUnit 26 = .ok (.istore 6, 2) := by decide +kernel
theorem dX9_awaitUnit_28 : decode cX9_awaitUnit 28 = .ok (.aload_n 0, 1) := by decide +kernel
theorem dX9_awaitUnit_29 : decode cX9_awaitUnit 29 = .ok (.iload_n 1, 1) := by decide +kernel
theorem dX9_awaitUnit_30 : decode cX9_awaitUnit 30 = .ok (.iload_n 2, 1) := by decide +kernel
theorem dX9_awaitUnit_31 : decode cX9_awaitUnit 31 = .ok (.iload_n 3, 1) := by decide +kernel
theorem dX9_awaitUnit_32 : decode cX9_awaitUnit 32 = .ok (.iload 6, 2) := by decide +kernel
theorem dX9_awaitUnit_34 : decode cX9_awaitUnit 34 = .ok (.invokevirtual 261, 3) := by decide +kernel
theorem dX9_awaitUnit_37 : decode cX9_awaitUnit 37 = .ok (.aload_n 0, 1) := by decide +kernel
theorem dX9_awaitUnit_38 : decode cX9_awaitUnit 38 = .ok (.iload 4, 2) := by decide +kernel
theorem dX9_awaitUnit_40 : decode cX9_awaitUnit 40 = .ok (.sipush 128, 3) := by decide +kernel
theorem dX9_awaitUnit_43 : decode cX9_awaitUnit 43 = .ok (.iload_n 3, 1) := by decide +kernel
theorem dX9_awaitUnit_44 : decode cX9_awaitUnit 44 = .ok (.bipush 63, 2) := by decide +kernel
theorem dX9_awaitUnit_46 : decode cX9_awaitUnit 46 = .ok (.iand, 1) := by decide +kernel
theorem dX9_awaitUnit_47 : decode cX9_awaitUnit 47 = .ok (.iadd, 1) := by decide +kernel
theorem dX9_awaitUnit_48 : decode cX9_awaitUnit 48 = .ok (.iload_n 3, 1) := by decide +kernel
theorem dX9_awaitUnit_49 : decode cX9_awaitUnit 49 = .ok (.iconst 1, 1) := by decide +kernel
theorem dX9_awaitUnit_50 : decode cX9_awaitUnit 50 = .ok (.iconst 0, 1) := by decide +kernel
theorem dX9_awaitUnit_51 : decode cX9_awaitUnit 51 = .ok (.invokevirtual 265, 3) := by decide +kernel
theorem dX9_awaitUnit_54 : decode cX9_awaitUnit 54 = .ok (.iconst 0, 1) := by decide +kernel
theorem dX9_awaitUnit_55 : decode cX9_awaitUnit 55 = .ok (.istore 7, 2) := by decide +kernel
theorem dX9_awaitUnit_57 : decode cX9_awaitUnit 57 = .ok (.iload 7, 2) := by decide +kernel
theorem dX9_awaitUnit_59 : decode cX9_awaitUnit 59 = .ok (.iload 6, 2) := by decide +kernel
theorem dX9_awaitUnit_61 : decode cX9_awaitUnit 61 = .ok (.if_icmp .ge 52, 3) := by decide +kernel
theorem dX9_awaitUnit_64 : decode cX9_awaitUnit 64 = .ok (.aload_n 0, 1) := by decide +kernel
theorem dX9_awaitUnit_65 : decode cX9_awaitUnit 65 = .ok (.iload 4, 2) := by decide +kernel
theorem dX9_awaitUnit_67 : decode cX9_awaitUnit 67 = .ok (.aload_n 0, 1) := by decide +kernel
theorem dX9_awaitUnit_68 : decode cX9_awaitUnit 68 = .ok (.getfield 65, 3) := by decide +kernel
theorem dX9_awaitUnit_71 : decode cX9_awaitUnit 71 = .ok (.bipush 120, 2) := by decide +kernel
theorem dX9_awaitUnit_73 : decode cX9_awaitUnit 73 = .ok (.iload 5, 2) := by decide +kernel
theorem dX9_awaitUnit_75 : decode cX9_awaitUnit 75 = .ok (.imul, 1) := by decide +kernel
theorem dX9_awaitUnit_76 : decode cX9_awaitUnit 76 = .ok (.iload 7, 2) := by decide +kernel
theorem dX9_awaitUnit_78 : decode cX9_awaitUnit 78 = .ok (.iadd, 1) := by decide +kernel
theorem dX9_awaitUnit_79 : decode cX9_awaitUnit 79 = .ok (.iaload, 1) := by decide +kernel
theorem dX9_awaitUnit_80 : decode cX9_awaitUnit 80 = .ok (.aload_n 0, 1) := by decide +kernel
theorem dX9_awaitUnit_81 : decode cX9_awaitUnit 81 = .ok (.getfield 222, 3) := by decide +kernel
theorem dX9_awaitUnit_84 : decode cX9_awaitUnit 84 = .ok (.iload 7, 2) := by decide +kernel
theorem dX9_awaitUnit_86 : decode cX9_awaitUnit 86 = .ok (.iaload, 1) := by decide +kernel
theorem dX9_awaitUnit_87 : decode cX9_awaitUnit 87 = .ok (.ixor, 1) := by decide +kernel
theorem dX9_awaitUnit_88 : decode cX9_awaitUnit 88 = .ok (.iload_n 3, 1) := by decide +kernel
theorem dX9_awaitUnit_89 : decode cX9_awaitUnit 89 = .ok (.iconst 0, 1) := by decide +kernel
theorem dX9_awaitUnit_90 : decode cX9_awaitUnit 90 = .ok (.iload 7, 2) := by decide +kernel
theorem dX9_awaitUnit_92 : decode cX9_awaitUnit 92 = .ok (.iconst 1, 1) := by decide +kernel
theorem dX9_awaitUnit_93 : decode cX9_awaitUnit 93 = .ok (.iadd, 1) := by decide +kernel
theorem dX9_awaitUnit_94 : decode cX9_awaitUnit 94 = .ok (.iload 6, 2) := by decide +kernel
theorem dX9_awaitUnit_96 : decode cX9_awaitUnit 96 = .ok (.if_icmp .ne 7, 3) := by decide +kernel
theorem dX9_awaitUnit_99 : decode cX9_awaitUnit 99 = .ok (.iconst 1, 1) := by decide +kernel
theorem dX9_awaitUnit_100 : decode cX9_awaitUnit 100 = .ok (.goto 4, 3) := by decide +kernel
theorem dX9_awaitUnit_103 : decode cX9_awaitUnit 103 = .ok (.iconst 0, 1) := by decide +kernel
theorem dX9_awaitUnit_104 : decode cX9_awaitUnit 104 = .ok (.invokevirtual 265, 3) := by decide +kernel
theorem dX9_awaitUnit_107 : decode cX9_awaitUnit 107 = .ok (.iinc 7 1, 3) := by decide +kernel
theorem dX9_awaitUnit_110 : decode cX9_awaitUnit 110 = .ok (.goto (-53), 3) := by decide +kernel
theorem dX9_awaitUnit_113 : decode cX9_awaitUnit 113 = .ok (.aload_n 0, 1) := by decide +kernel
theorem dX9_awaitUnit_114 : decode cX9_awaitUnit 114 = .ok (.getfield 62, 3) := by decide +kernel
theorem dX9_awaitUnit_117 : decode cX9_awaitUnit 117 = .ok (.iload 5, 2) := by decide +kernel
theorem dX9_awaitUnit_119 : decode cX9_awaitUnit 119 = .ok (.iload 6, 2) := by decide +kernel
theorem dX9_awaitUnit_121 : decode cX9_awaitUnit 121 = .ok (.iconst 1, 1) := by decide +kernel
theorem dX9_awaitUnit_122 : decode cX9_awaitUnit 122 = .ok (.iadd, 1) := by decide +kernel
theorem dX9_awaitUnit_123 : decode cX9_awaitUnit 123 = .ok (.iastore, 1) := by decide +kernel
theorem dX9_awaitUnit_124 : decode cX9_awaitUnit 124 = .ok (.return_, 1) := by decide +kernel
theorem dX9_send_0 : decode cX9_send 0 = .ok (.aload_n 0, 1) := by decide +kernel
theorem dX9_send_1 : decode cX9_send 1 = .ok (.iload_n 1, 1) := by decide +kernel
theorem dX9_send_2 : decode cX9_send 2 = .ok (.iload_n 2, 1) := by decide +kernel
theorem dX9_send_3 : decode cX9_send 3 = .ok (.invokevirtual 269, 3) := by decide +kernel
theorem dX9_send_6 : decode cX9_send 6 = .ok (.ifCond .eq 10, 3) := by decide +kernel
theorem dX9_send_9 : decode cX9_send 9 = .ok (.aload_n 0, 1) := by decide +kernel
theorem dX9_send_10 : decode cX9_send 10 = .ok (.getfield 255, 3) := by decide +kernel
theorem dX9_send_13 : decode cX9_send 13 = .ok (.ifCond .ne 5, 3) := by decide +kernel
theorem dX9_send_16 : decode cX9_send 16 = .ok (.iconst (-1), 1) := by decide +kernel
theorem dX9_send_17 : decode cX9_send 17 = .ok (.ireturn, 1) := by decide +kernel
theorem dX9_send_18 : decode cX9_send 18 = .ok (.iload_n 1, 1) := by decide +kernel
theorem dX9_send_19 : decode cX9_send 19 = .ok (.iload_n 2, 1) := by decide +kernel
theorem dX9_send_20 : decode cX9_send 20 = .ok (.invokestatic 258, 3) := by decide +kernel
theorem dX9_send_23 : decode cX9_send 23 = .ok (.istore_n 3, 1) := by decide +kernel
theorem dX9_send_24 : decode cX9_send 24 = .ok (.aload_n 0, 1) := by decide +kernel
theorem dX9_send_25 : decode cX9_send 25 = .ok (.getfield 13, 3) := by decide +kernel
theorem dX9_send_28 : decode cX9_send 28 = .ok (.iload_n 3, 1) := by decide +kernel
theorem dX9_send_29 : decode cX9_send 29 = .ok (.iaload, 1) := by decide +kernel
theorem dX9_send_30 : decode cX9_send 30 = .ok (.istore 4, 2) := by decide +kernel
theorem dX9_send_32 : decode cX9_send 32 = .ok (.iload 4, 2) := by decide +kernel
theorem dX9_send_34 : decode cX9_send 34 = .ok (.aload_n 0, 1) := by decide +kernel
theorem dX9_send_35 : decode cX9_send 35 = .ok (.iload_n 3, 1) := by decide +kernel
theorem dX9_send_36 : decode cX9_send 36 = .ok (.invokevirtual 273, 3) := by decide +kernel
theorem dX9_send_39 : decode cX9_send 39 = .ok (.bipush 24, 2) := by decide +kernel
theorem dX9_send_41 : decode cX9_send 41 = .ok (.iadd, 1) := by decide +kernel
theorem dX9_send_42 : decode cX9_send 42 = .ok (.if_icmp .lt 5, 3) := by decide +kernel
theorem dX9_send_45 : decode cX9_send 45 = .ok (.iconst (-1), 1) := by decide +kernel
theorem dX9_send_46 : decode cX9_send 46 = .ok (.ireturn, 1) := by decide +kernel
theorem dX9_send_47 : decode cX9_send 47 = .ok (.bipush 32, 2) := by decide +kernel
theorem dX9_send_49 : decode cX9_send 49 = .ok (.iload_n 3, 1) := by decide +kernel
theorem dX9_send_50 : decode cX9_send 50 = .ok (.imul, 1) := by decide +kernel
theorem dX9_send_51 : decode cX9_send 51 = .ok (.iload 4, 2) := by decide +kernel
theorem dX9_send_53 : decode cX9_send 53 = .ok (.bipush 31, 2) := by decide +kernel
theorem dX9_send_55 : decode cX9_send 55 = .ok (.iand, 1) := by decide +kernel
theorem dX9_send_56 : decode cX9_send 56 = .ok (.iadd, 1) := by decide +kernel
theorem dX9_send_57 : decode cX9_send 57 = .ok (.istore 5, 2) := by decide +kernel
theorem dX9_send_59 : decode cX9_send 59 = .ok (.aload_n 0, 1) := by decide +kernel
theorem dX9_send_60 : decode cX9_send 60 = .ok (.getfield 53, 3) := by decide +kernel
theorem dX9_send_63 : decode cX9_send 63 = .ok (.iload 5, 2) := by decide +kernel
theorem dX9_send_65 : decode cX9_send 65 = .ok (.iconst 1, 1) := by decide +kernel
theorem dX9_send_66 : decode cX9_send 66 = .ok (.bastore, 1) := by decide +kernel
theorem dX9_send_67 : decode cX9_send 67 = .ok (.aload_n 0, 1) := by decide +kernel
theorem dX9_send_68 : decode cX9_send 68 = .ok (.getfield 59, 3) := by decide +kernel
theorem dX9_send_71 : decode cX9_send 71 = .ok (.iload 5, 2) := by decide +kernel
theorem dX9_send_73 : decode cX9_send 73 = .ok (.iload 4, 2) := by decide +kernel
theorem dX9_send_75 : decode cX9_send 75 = .ok (.iastore, 1) := by decide +kernel
theorem dX9_send_76 : decode cX9_send 76 = .ok (.aload_n 0, 1) := by decide +kernel
theorem dX9_send_77 : decode cX9_send 77 = .ok (.getfield 56, 3) := by decide +kernel
theorem dX9_send_80 : decode cX9_send 80 = .ok (.iload 5, 2) := by decide +kernel
theorem dX9_send_82 : decode cX9_send 82 = .ok (.aload_n 0, 1) := by decide +kernel
theorem dX9_send_83 : decode cX9_send 83 = .ok (.getfield 255, 3) := by decide +kernel
theorem dX9_send_86 : decode cX9_send 86 = .ok (.iastore, 1) := by decide +kernel
theorem dX9_send_87 : decode cX9_send 87 = .ok (.iconst 0, 1) := by decide +kernel
theorem dX9_send_88 : decode cX9_send 88 = .ok (.istore 6, 2) := by decide +kernel
theorem dX9_send_90 : decode cX9_send 90 = .ok (.iload 6, 2) := by decide +kernel
theorem dX9_send_92 : decode cX9_send 92 = .ok (.aload_n 0, 1) := by decide +kernel
theorem dX9_send_93 : decode cX9_send 93 = .ok (.getfield 255, 3) := by decide +kernel
theorem dX9_send_96 : decode cX9_send 96 = .ok (.if_icmp .ge 29, 3) := by decide +kernel
theorem dX9_send_99 : decode cX9_send 99 = .ok (.aload_n 0, 1) := by decide +kernel
theorem dX9_send_100 : decode cX9_send 100 = .ok (.getfield 65, 3) := by decide +kernel
theorem dX9_send_103 : decode cX9_send 103 = .ok (.bipush 120, 2) := by decide +kernel
theorem dX9_send_105 : decode cX9_send 105 = .ok (.iload 5, 2) := by decide +kernel
theorem dX9_send_107 : decode cX9_send 107 = .ok (.imul, 1) := by decide +kernel
theorem dX9_send_108 : decode cX9_send 108 = .ok (.iload 6, 2) := by decide +kernel
theorem dX9_send_110 : decode cX9_send 110 = .ok (.iadd, 1) := by decide +kernel
theorem dX9_send_111 : decode cX9_send 111 = .ok (.aload_n 0, 1) := by decide +kernel
theorem dX9_send_112 : decode cX9_send 112 = .ok (.getfield 9, 3) := by decide +kernel
theorem dX9_send_115 : decode cX9_send 115 = .ok (.iload 6, 2) := by decide +kernel
theorem dX9_send_117 : decode cX9_send 117 = .ok (.iaload, 1) := by decide +kernel
theorem dX9_send_118 : decode cX9_send 118 = .ok (.iastore, 1) := by decide +kernel
theorem dX9_send_119 : decode cX9_send 119 = .ok (.iinc 6 1, 3) := by decide +kernel
theorem dX9_send_122 : decode cX9_send 122 = .ok (.goto (-32), 3) := by decide +kernel
theorem dX9_send_125 : decode cX9_send 125 = .ok (.aload_n 0, 1) := by decide +kernel
theorem dX9_send_126 : decode cX9_send 126 = .ok (.iconst 0, 1) := by decide +kernel
theorem dX9_send_127 : decode cX9_send 127 = .ok (.putfield 255, 3) := by decide +kernel
theorem dX9_send_130 : decode cX9_send 130 = .ok (.aload_n 0, 1) := by decide +kernel
theorem dX9_send_131 : decode cX9_send 131 = .ok (.getfield 13, 3) := by decide +kernel
theorem dX9_send_134 : decode cX9_send 134 = .ok (.iload_n 3, 1) := by decide +kernel
theorem dX9_send_135 : decode cX9_send 135 = .ok (.dup2, 1) := by decide +kernel
theorem dX9_send_136 : decode cX9_send 136 = .ok (.iaload, 1) := by decide +kernel
theorem dX9_send_137 : decode cX9_send 137 = .ok (.iconst 1, 1) := by decide +kernel
theorem dX9_send_138 : decode cX9_send 138 = .ok (.iadd, 1) := by decide +kernel
theorem dX9_send_139 : decode cX9_send 139 = .ok (.iastore, 1) := by decide +kernel
theorem dX9_send_140 : decode cX9_send 140 = .ok (.aload_n 0, 1) := by decide +kernel
theorem dX9_send_141 : decode cX9_send 141 = .ok (.iload_n 1, 1) := by decide +kernel
theorem dX9_send_142 : decode cX9_send 142 = .ok (.iload_n 2, 1) := by decide +kernel
theorem dX9_send_143 : decode cX9_send 143 = .ok (.iload 4, 2) := by decide +kernel
theorem dX9_send_145 : decode cX9_send 145 = .ok (.invokevirtual 276, 3) := by decide +kernel
theorem dX9_send_148 : decode cX9_send 148 = .ok (.iload 4, 2) := by decide +kernel
theorem dX9_send_150 : decode cX9_send 150 = .ok (.ireturn, 1) := by decide +kernel
theorem dX9_confirm_0 : decode cX9_confirm 0 = .ok (.aload_n 0, 1) := by decide +kernel
theorem dX9_confirm_1 : decode cX9_confirm 1 = .ok (.getfield 53, 3) := by decide +kernel
theorem dX9_confirm_4 : decode cX9_confirm 4 = .ok (.bipush 32, 2) := by decide +kernel
theorem dX9_confirm_6 : decode cX9_confirm 6 = .ok (.iload_n 1, 1) := by decide +kernel
theorem dX9_confirm_7 : decode cX9_confirm 7 = .ok (.imul, 1) := by decide +kernel
theorem dX9_confirm_8 : decode cX9_confirm 8 = .ok (.iload_n 2, 1) := by decide +kernel
theorem dX9_confirm_9 : decode cX9_confirm 9 = .ok (.bipush 31, 2) := by decide +kernel
theorem dX9_confirm_11 : decode cX9_confirm 11 = .ok (.iand, 1) := by decide +kernel
theorem dX9_confirm_12 : decode cX9_confirm 12 = .ok (.iadd, 1) := by decide +kernel
theorem dX9_confirm_13 : decode cX9_confirm 13 = .ok (.iconst 0, 1) := by decide +kernel
theorem dX9_confirm_14 : decode cX9_confirm 14 = .ok (.bastore, 1) := by decide +kernel
theorem dX9_confirm_15 : decode cX9_confirm 15 = .ok (.iconst (-1), 1) := by decide +kernel
theorem dX9_confirm_16 : decode cX9_confirm 16 = .ok (.istore_n 3, 1) := by decide +kernel
theorem dX9_confirm_17 : decode cX9_confirm 17 = .ok (.iconst 0, 1) := by decide +kernel
theorem dX9_confirm_18 : decode cX9_confirm 18 = .ok (.istore 4, 2) := by decide +kernel
theorem dX9_confirm_20 : decode cX9_confirm 20 = .ok (.iload 4, 2) := by decide +kernel
theorem dX9_confirm_22 : decode cX9_confirm 22 = .ok (.aload_n 0, 1) := by decide +kernel
theorem dX9_confirm_23 : decode cX9_confirm 23 = .ok (.getfield 74, 3) := by decide +kernel
theorem dX9_confirm_26 : decode cX9_confirm 26 = .ok (.iload_n 1, 1) := by decide +kernel
theorem dX9_confirm_27 : decode cX9_confirm 27 = .ok (.iaload, 1) := by decide +kernel
theorem dX9_confirm_28 : decode cX9_confirm 28 = .ok (.if_icmp .ge 34, 3) := by decide +kernel
theorem dX9_confirm_31 : decode cX9_confirm 31 = .ok (.iload_n 3, 1) := by decide +kernel
theorem dX9_confirm_32 : decode cX9_confirm 32 = .ok (.iconst (-1), 1) := by decide +kernel
theorem dX9_confirm_33 : decode cX9_confirm 33 = .ok (.if_icmp .ne 29, 3) := by decide +kernel
theorem dX9_confirm_36 : decode cX9_confirm 36 = .ok (.aload_n 0, 1) := by decide +kernel
theorem dX9_confirm_37 : decode cX9_confirm 37 = .ok (.getfield 71, 3) := by decide +kernel
theorem dX9_confirm_40 : decode cX9_confirm 40 = .ok (.sipush 4400, 3) := by decide +kernel
theorem dX9_confirm_43 : decode cX9_confirm 43 = .ok (.iload_n 1, 1) := by decide +kernel
theorem dX9_confirm_44 : decode cX9_confirm 44 = .ok (.imul, 1) := by decide +kernel
theorem dX9_confirm_45 : decode cX9_confirm 45 = .ok (.iload 4, 2) := by decide +kernel
theorem dX9_confirm_47 : decode cX9_confirm 47 = .ok (.iadd, 1) := by decide +kernel
theorem dX9_confirm_48 : decode cX9_confirm 48 = .ok (.iaload, 1) := by decide +kernel
theorem dX9_confirm_49 : decode cX9_confirm 49 = .ok (.iload_n 2, 1) := by decide +kernel
theorem dX9_confirm_50 : decode cX9_confirm 50 = .ok (.if_icmp .ne 6, 3) := by decide +kernel
theorem dX9_confirm_53 : decode cX9_confirm 53 = .ok (.iload 4, 2) := by decide +kernel
theorem dX9_confirm_55 : decode cX9_confirm 55 = .ok (.istore_n 3, 1) := by decide +kernel
theorem dX9_confirm_56 : decode cX9_confirm 56 = .ok (.iinc 4 1, 3) := by decide +kernel
theorem dX9_confirm_59 : decode cX9_confirm 59 = .ok (.goto (-39), 3) := by decide +kernel
theorem dX9_confirm_62 : decode cX9_confirm 62 = .ok (.iload_n 3, 1) := by decide +kernel
theorem dX9_confirm_63 : decode cX9_confirm 63 = .ok (.iconst (-1), 1) := by decide +kernel
theorem dX9_confirm_64 : decode cX9_confirm 64 = .ok (.if_icmp .eq 18, 3) := by decide +kernel
theorem dX9_confirm_67 : decode cX9_confirm 67 = .ok (.aload_n 0, 1) := by decide +kernel
theorem dX9_confirm_68 : decode cX9_confirm 68 = .ok (.getfield 77, 3) := by decide +kernel
theorem dX9_confirm_71 : decode cX9_confirm 71 = .ok (.sipush 4400, 3) := by decide +kernel
theorem dX9_confirm_74 : decode cX9_confirm 74 = .ok (.iload_n 1, 1) := by decide +kernel
theorem dX9_confirm_75 : decode cX9_confirm 75 = .ok (.imul, 1) := by decide +kernel
theorem dX9_confirm_76 : decode cX9_confirm 76 = .ok (.iload_n 3, 1) := by decide +kernel
theorem dX9_confirm_77 : decode cX9_confirm 77 = .ok (.iadd, 1) := by decide +kernel
theorem dX9_confirm_78 : decode cX9_confirm 78 = .ok (.baload, 1) := by decide +kernel
theorem dX9_confirm_79 : decode cX9_confirm 79 = .ok (.ifCond .ne 4, 3) := by decide +kernel
theorem dX9_confirm_82 : decode cX9_confirm 82 = .ok (.return_, 1) := by decide +kernel
theorem dX9_confirm_83 : decode cX9_confirm 83 = .ok (.iload_n 3, 1) := by decide +kernel
theorem dX9_confirm_84 : decode cX9_confirm 84 = .ok (.istore 4, 2) := by decide +kernel
theorem dX9_confirm_86 : decode cX9_confirm 86 = .ok (.iload 4, 2) := by decide +kernel
theorem dX9_confirm_88 : decode cX9_confirm 88 = .ok (.aload_n 0, 1) := by decide +kernel
theorem dX9_confirm_89 : decode cX9_confirm 89 = .ok (.getfield 74, 3) := by decide +kernel
theorem dX9_confirm_92 : decode cX9_confirm 92 = .ok (.iload_n 1, 1) := by decide +kernel
theorem dX9_confirm_93 : decode cX9_confirm 93 = .ok (.iaload, 1) := by decide +kernel
theorem dX9_confirm_94 : decode cX9_confirm 94 = .ok (.if_icmp .ge 26, 3) := by decide +kernel
theorem dX9_confirm_97 : decode cX9_confirm 97 = .ok (.aload_n 0, 1) := by decide +kernel
theorem dX9_confirm_98 : decode cX9_confirm 98 = .ok (.getfield 71, 3) := by decide +kernel
theorem dX9_confirm_101 : decode cX9_confirm 101 = .ok (.sipush 4400, 3) := by decide +kernel
theorem dX9_confirm_104 : decode cX9_confirm 104 = .ok (.iload_n 1, 1) := by decide +kernel
theorem dX9_confirm_105 : decode cX9_confirm 105 = .ok (.imul, 1) := by decide +kernel
theorem dX9_confirm_106 : decode cX9_confirm 106 = .ok (.iload 4, 2) := by decide +kernel
theorem dX9_confirm_108 : decode cX9_confirm 108 = .ok (.iadd, 1) := by decide +kernel
theorem dX9_confirm_109 : decode cX9_confirm 109 = .ok (.iaload, 1) := by decide +kernel
theorem dX9_confirm_110 : decode cX9_confirm 110 = .ok (.iload_n 2, 1) := by decide +kernel
theorem dX9_confirm_111 : decode cX9_confirm 111 = .ok (.if_icmp .ne 9, 3) := by decide +kernel
theorem dX9_confirm_114 : decode cX9_confirm 114 = .ok (.iinc 4 1, 3) := by decide +kernel
theorem dX9_confirm_117 : decode cX9_confirm 117 = .ok (.goto (-31), 3) := by decide +kernel
theorem dX9_confirm_120 : decode cX9_confirm 120 = .ok (.aload_n 0, 1) := by decide +kernel
theorem dX9_confirm_121 : decode cX9_confirm 121 = .ok (.iload_n 1, 1) := by decide +kernel
theorem dX9_confirm_122 : decode cX9_confirm 122 = .ok (.iload_n 3, 1) := by decide +kernel
theorem dX9_confirm_123 : decode cX9_confirm 123 = .ok (.iload 4, 2) := by decide +kernel
theorem dX9_confirm_125 : decode cX9_confirm 125 = .ok (.invokevirtual 280, 3) := by decide +kernel
theorem dX9_confirm_128 : decode cX9_confirm 128 = .ok (.return_, 1) := by decide +kernel
theorem dX9_cutWaiting_0 : decode cX9_cutWaiting 0 = .ok (.iload_n 3, 1) := by decide +kernel
theorem dX9_cutWaiting_1 : decode cX9_cutWaiting 1 = .ok (.istore 4, 2) := by decide +kernel
theorem dX9_cutWaiting_3 : decode cX9_cutWaiting 3 = .ok (.iload 4, 2) := by decide +kernel
theorem dX9_cutWaiting_5 : decode cX9_cutWaiting 5 = .ok (.aload_n 0, 1) := by decide +kernel
theorem dX9_cutWaiting_6 : decode cX9_cutWaiting 6 = .ok (.getfield 74, 3) := by decide +kernel
theorem dX9_cutWaiting_9 : decode cX9_cutWaiting 9 = .ok (.iload_n 1, 1) := by decide +kernel
theorem dX9_cutWaiting_10 : decode cX9_cutWaiting 10 = .ok (.iaload, 1) := by decide +kernel
theorem dX9_cutWaiting_11 : decode cX9_cutWaiting 11 = .ok (.if_icmp .ge 83, 3) := by decide +kernel
theorem dX9_cutWaiting_14 : decode cX9_cutWaiting 14 = .ok (.sipush 4400, 3) := by decide +kernel
theorem dX9_cutWaiting_17 : decode cX9_cutWaiting 17 = .ok (.iload_n 1, 1) := by decide +kernel
theorem dX9_cutWaiting_18 : decode cX9_cutWaiting 18 = .ok (.imul, 1) := by decide +kernel
theorem dX9_cutWaiting_19 : decode cX9_cutWaiting 19 = .ok (.iload 4, 2) := by decide +kernel
theorem dX9_cutWaiting_21 : decode cX9_cutWaiting 21 = .ok (.iadd, 1) := by decide +kernel
theorem dX9_cutWaiting_22 : decode cX9_cutWaiting 22 = .ok (.istore 5, 2) := by decide +kernel
theorem dX9_cutWaiting_24 : decode cX9_cutWaiting 24 = .ok (.iload 5, 2) := by decide +kernel
theorem dX9_cutWaiting_26 : decode cX9_cutWaiting 26 = .ok (.iload_n 3, 1) := by decide +kernel
theorem dX9_cutWaiting_27 : decode cX9_cutWaiting 27 = .ok (.isub, 1) := by decide +kernel
theorem dX9_cutWaiting_28 : decode cX9_cutWaiting 28 = .ok (.iload_n 2, 1) := by decide +kernel
theorem dX9_cutWaiting_29 : decode cX9_cutWaiting 29 = .ok (.iadd, 1) := by decide +kernel
theorem dX9_cutWaiting_30 : decode cX9_cutWaiting 30 = .ok (.istore 6, 2) := by decide +kernel
theorem dX9_cutWaiting_32 : decode cX9_cutWaiting 32 = .ok (.aload_n 0, 1) := by decide +kernel
theorem dX9_cutWaiting_33 : decode cX9_cutWaiting 33 = .ok (.getfield 68, 3) := by decide +kernel
theorem dX9_cutWaiting_36 : decode cX9_cutWaiting 36 = .ok (.iload 6, 2) := by decide +kernel
theorem dX9_cutWaiting_38 : decode cX9_cutWaiting 38 = .ok (.aload_n 0, 1) := by decide +kernel
theorem dX9_cutWaiting_39 : decode cX9_cutWaiting 39 = .ok (.getfield 68, 3) := by decide +kernel
theorem dX9_cutWaiting_42 : decode cX9_cutWaiting 42 = .ok (.iload 5, 2) := by decide +kernel
theorem dX9_cutWaiting_44 : decode cX9_cutWaiting 44 = .ok (.iaload, 1) := by decide +kernel
theorem dX9_cutWaiting_45 : decode cX9_cutWaiting 45 = .ok (.iastore, 1) := by decide +kernel
theorem dX9_cutWaiting_46 : decode cX9_cutWaiting 46 = .ok (.aload_n 0, 1) := by decide +kernel
theorem dX9_cutWaiting_47 : decode cX9_cutWaiting 47 = .ok (.getfield 71, 3) := by decide +kernel
theorem dX9_cutWaiting_50 : decode cX9_cutWaiting 50 = .ok (.iload 6, 2) := by decide +kernel
theorem dX9_cutWaiting_52 : decode cX9_cutWaiting 52 = .ok (.aload_n 0, 1) := by decide +kernel
theorem dX9_cutWaiting_53 : decode cX9_cutWaiting 53 = .ok (.getfield 71, 3) := by decide +kernel
theorem dX9_cutWaiting_56 : decode cX9_cutWaiting 56 = .ok (.iload 5, 2) := by decide +kernel
theorem dX9_cutWaiting_58 : decode cX9_cutWaiting 58 = .ok (.iaload, 1) := by decide +kernel
theorem dX9_cutWaiting_59 : decode cX9_cutWaiting 59 = .ok (.iastore, 1) := by decide +kernel
theorem dX9_cutWaiting_60 : decode cX9_cutWaiting 60 = .ok (.aload_n 0, 1) := by decide +kernel
theorem dX9_cutWaiting_61 : decode cX9_cutWaiting 61 = .ok (.getfield 77, 3) := by decide +kernel
theorem dX9_cutWaiting_64 : decode cX9_cutWaiting 64 = .ok (.iload 6, 2) := by decide +kernel
theorem dX9_cutWaiting_66 : decode cX9_cutWaiting 66 = .ok (.aload_n 0, 1) := by decide +kernel
theorem dX9_cutWaiting_67 : decode cX9_cutWaiting 67 = .ok (.getfield 77, 3) := by decide +kernel
theorem dX9_cutWaiting_70 : decode cX9_cutWaiting 70 = .ok (.iload 5, 2) := by decide +kernel
theorem dX9_cutWaiting_72 : decode cX9_cutWaiting 72 = .ok (.baload, 1) := by decide +kernel
theorem dX9_cutWaiting_73 : decode cX9_cutWaiting 73 = .ok (.bastore, 1) := by decide +kernel
theorem dX9_cutWaiting_74 : decode cX9_cutWaiting 74 = .ok (.aload_n 0, 1) := by decide +kernel
theorem dX9_cutWaiting_75 : decode cX9_cutWaiting 75 = .ok (.getfield 80, 3) := by decide +kernel
theorem dX9_cutWaiting_78 : decode cX9_cutWaiting 78 = .ok (.iload 6, 2) := by decide +kernel
theorem dX9_cutWaiting_80 : decode cX9_cutWaiting 80 = .ok (.aload_n 0, 1) := by decide +kernel
theorem dX9_cutWaiting_81 : decode cX9_cutWaiting 81 = .ok (.getfield 80, 3) := by decide +kernel
theorem dX9_cutWaiting_84 : decode cX9_cutWaiting 84 = .ok (.iload 5, 2) := by decide +kernel
theorem dX9_cutWaiting_86 : decode cX9_cutWaiting 86 = .ok (.baload, 1) := by decide +kernel
theorem dX9_cutWaiting_87 : decode cX9_cutWaiting 87 = .ok (.bastore, 1) := by decide +kernel
theorem dX9_cutWaiting_88 : decode cX9_cutWaiting 88 = .ok (.iinc 4 1, 3) := by decide +kernel
theorem dX9_cutWaiting_91 : decode cX9_cutWaiting 91 = .ok (.goto (-88), 3) := by decide +kernel
theorem dX9_cutWaiting_94 : decode cX9_cutWaiting 94 = .ok (.aload_n 0, 1) := by decide +kernel
theorem dX9_cutWaiting_95 : decode cX9_cutWaiting 95 = .ok (.getfield 74, 3) := by decide +kernel
theorem dX9_cutWaiting_98 : decode cX9_cutWaiting 98 = .ok (.iload_n 1, 1) := by decide +kernel
theorem dX9_cutWaiting_99 : decode cX9_cutWaiting 99 = .ok (.dup2, 1) := by decide +kernel
theorem dX9_cutWaiting_100 : decode cX9_cutWaiting 100 = .ok (.iaload, 1) := by decide +kernel
theorem dX9_cutWaiting_101 : decode cX9_cutWaiting 101 = .ok (.iload_n 3, 1) := by decide +kernel
theorem dX9_cutWaiting_102 : decode cX9_cutWaiting 102 = .ok (.iload_n 2, 1) := by decide +kernel
theorem dX9_cutWaiting_103 : decode cX9_cutWaiting 103 = .ok (.isub, 1) := by decide +kernel
theorem dX9_cutWaiting_104 : decode cX9_cutWaiting 104 = .ok (.isub, 1) := by decide +kernel
theorem dX9_cutWaiting_105 : decode cX9_cutWaiting 105 = .ok (.iastore, 1) := by decide +kernel
theorem dX9_cutWaiting_106 : decode cX9_cutWaiting 106 = .ok (.return_, 1) := by decide +kernel
theorem dX9_isAgain_0 : decode cX9_isAgain 0 = .ok (.iconst 0, 1) := by decide +kernel
theorem dX9_isAgain_1 : decode cX9_isAgain 1 = .ok (.istore_n 3, 1) := by decide +kernel
theorem dX9_isAgain_2 : decode cX9_isAgain 2 = .ok (.bipush 16, 2) := by decide +kernel
theorem dX9_isAgain_4 : decode cX9_isAgain 4 = .ok (.iload_n 1, 1) := by decide +kernel
theorem dX9_isAgain_5 : decode cX9_isAgain 5 = .ok (.imul, 1) := by decide +kernel
theorem dX9_isAgain_6 : decode cX9_isAgain 6 = .ok (.iload_n 2, 1) := by decide +kernel
theorem dX9_isAgain_7 : decode cX9_isAgain 7 = .ok (.bipush 15, 2) := by decide +kernel
theorem dX9_isAgain_9 : decode cX9_isAgain 9 = .ok (.iand, 1) := by decide +kernel
theorem dX9_isAgain_10 : decode cX9_isAgain 10 = .ok (.iadd, 1) := by decide +kernel
theorem dX9_isAgain_11 : decode cX9_isAgain 11 = .ok (.istore 4, 2) := by decide +kernel
theorem dX9_isAgain_13 : decode cX9_isAgain 13 = .ok (.iconst 0, 1) := by decide +kernel
theorem dX9_isAgain_14 : decode cX9_isAgain 14 = .ok (.istore 5, 2) := by decide +kernel
theorem dX9_isAgain_16 : decode cX9_isAgain 16 = .ok (.iload 5, 2) := by decide +kernel
theorem dX9_isAgain_18 : decode cX9_isAgain 18 = .ok (.aload_n 0, 1) := by decide +kernel
theorem dX9_isAgain_19 : decode cX9_isAgain 19 = .ok (.getfield 83, 3) := by decide +kernel
theorem dX9_isAgain_22 : decode cX9_isAgain 22 = .ok (.iload 4, 2) := by decide +kernel
theorem dX9_isAgain_24 : decode cX9_isAgain 24 = .ok (.iaload, 1) := by decide +kernel
theorem dX9_isAgain_25 : decode cX9_isAgain 25 = .ok (.if_icmp .ge 34, 3) := by decide +kernel
theorem dX9_isAgain_28 : decode cX9_isAgain 28 = .ok (.iload_n 3, 1) := by decide +kernel
theorem dX9_isAgain_29 : decode cX9_isAgain 29 = .ok (.aload_n 0, 1) := by decide +kernel
theorem dX9_isAgain_30 : decode cX9_isAgain 30 = .ok (.getfield 104, 3) := by decide +kernel
theorem dX9_isAgain_33 : decode cX9_isAgain 33 = .ok (.sipush 240, 3) := by decide +kernel
theorem dX9_isAgain_36 : decode cX9_isAgain 36 = .ok (.iload 4, 2) := by decide +kernel
theorem dX9_isAgain_38 : decode cX9_isAgain 38 = .ok (.imul, 1) := by decide +kernel
theorem dX9_isAgain_39 : decode cX9_isAgain 39 = .ok (.iload 5, 2) := by decide +kernel
theorem dX9_isAgain_41 : decode cX9_isAgain 41 = .ok (.iadd, 1) := by decide +kernel
theorem dX9_isAgain_42 : decode cX9_isAgain 42 = .ok (.baload, 1) := by decide +kernel
theorem dX9_isAgain_43 : decode cX9_isAgain 43 = .ok (.ifCond .eq 7, 3) := by decide +kernel
theorem dX9_isAgain_46 : decode cX9_isAgain 46 = .ok (.iconst 1, 1) := by decide +kernel
theorem dX9_isAgain_47 : decode cX9_isAgain 47 = .ok (.goto 4, 3) := by decide +kernel
theorem dX9_isAgain_50 : decode cX9_isAgain 50 = .ok (.iconst 0, 1) := by decide +kernel
theorem dX9_isAgain_51 : decode cX9_isAgain 51 = .ok (.iadd, 1) := by decide +kernel
theorem dX9_isAgain_52 : decode cX9_isAgain 52 = .ok (.istore_n 3, 1) := by decide +kernel
theorem dX9_isAgain_53 : decode cX9_isAgain 53 = .ok (.iinc 5 1, 3) := by decide +kernel
theorem dX9_isAgain_56 : decode cX9_isAgain 56 = .ok (.goto (-40), 3) := by decide +kernel
theorem dX9_isAgain_59 : decode cX9_isAgain 59 = .ok (.iload_n 3, 1) := by decide +kernel
theorem dX9_isAgain_60 : decode cX9_isAgain 60 = .ok (.ireturn, 1) := by decide +kernel
theorem dX9_allAgain_0 : decode cX9_allAgain 0 = .ok (.iconst 0, 1) := by decide +kernel
theorem dX9_allAgain_1 : decode cX9_allAgain 1 = .ok (.istore_n 2, 1) := by decide +kernel
theorem dX9_allAgain_2 : decode cX9_allAgain 2 = .ok (.aload_n 0, 1) := by decide +kernel
theorem dX9_allAgain_3 : decode cX9_allAgain 3 = .ok (.getfield 16, 3) := by decide +kernel
theorem dX9_allAgain_6 : decode cX9_allAgain 6 = .ok (.iload_n 1, 1) := by decide +kernel
theorem dX9_allAgain_7 : decode cX9_allAgain 7 = .ok (.iaload, 1) := by decide +kernel
theorem dX9_allAgain_8 : decode cX9_allAgain 8 = .ok (.istore_n 3, 1) := by decide +kernel
theorem dX9_allAgain_9 : decode cX9_allAgain 9 = .ok (.iload_n 3, 1) := by decide +kernel
theorem dX9_allAgain_10 : decode cX9_allAgain 10 = .ok (.aload_n 0, 1) := by decide +kernel
theorem dX9_allAgain_11 : decode cX9_allAgain 11 = .ok (.getfield 19, 3) := by decide +kernel
theorem dX9_allAgain_14 : decode cX9_allAgain 14 = .ok (.iload_n 1, 1) := by decide +kernel
theorem dX9_allAgain_15 : decode cX9_allAgain 15 = .ok (.iaload, 1) := by decide +kernel
theorem dX9_allAgain_16 : decode cX9_allAgain 16 = .ok (.if_icmp .ge 18, 3) := by decide +kernel
theorem dX9_allAgain_19 : decode cX9_allAgain 19 = .ok (.iload_n 2, 1) := by decide +kernel
theorem dX9_allAgain_20 : decode cX9_allAgain 20 = .ok (.aload_n 0, 1) := by decide +kernel
theorem dX9_allAgain_21 : decode cX9_allAgain 21 = .ok (.iload_n 1, 1) := by decide +kernel
theorem dX9_allAgain_22 : decode cX9_allAgain 22 = .ok (.iload_n 3, 1) := by decide +kernel
theorem dX9_allAgain_23 : decode cX9_allAgain 23 = .ok (.invokevirtual 283, 3) := by decide +kernel
theorem dX9_allAgain_26 : decode cX9_allAgain 26 = .ok (.iadd, 1) := by decide +kernel
theorem dX9_allAgain_27 : decode cX9_allAgain 27 = .ok (.istore_n 2, 1) := by decide +kernel
theorem dX9_allAgain_28 : decode cX9_allAgain 28 = .ok (.iinc 3 1, 3) := by decide +kernel
theorem dX9_allAgain_31 : decode cX9_allAgain 31 = .ok (.goto (-22), 3) := by decide +kernel
theorem dX9_allAgain_34 : decode cX9_allAgain 34 = .ok (.iload_n 2, 1) := by decide +kernel
theorem dX9_allAgain_35 : decode cX9_allAgain 35 = .ok (.ireturn, 1) := by decide +kernel
theorem dX9_fitting_0 : decode cX9_fitting 0 = .ok (.iload 4, 2) := by decide +kernel
theorem dX9_fitting_2 : decode cX9_fitting 2 = .ok (.istore 6, 2) := by decide +kernel
theorem dX9_fitting_4 : decode cX9_fitting 4 = .ok (.iload_n 2, 1) := by decide +kernel
theorem dX9_fitting_5 : decode cX9_fitting 5 = .ok (.istore 7, 2) := by decide +kernel
theorem dX9_fitting_7 : decode cX9_fitting 7 = .ok (.iconst 1, 1) := by decide +kernel
theorem dX9_fitting_8 : decode cX9_fitting 8 = .ok (.istore 8, 2) := by decide +kernel
theorem dX9_fitting_10 : decode cX9_fitting 10 = .ok (.iload 8, 2) := by decide +kernel
theorem dX9_fitting_12 : decode cX9_fitting 12 = .ok (.ifCond .eq 84, 3) := by decide +kernel
theorem dX9_fitting_15 : decode cX9_fitting 15 = .ok (.iload 7, 2) := by decide +kernel
theorem dX9_fitting_17 : decode cX9_fitting 17 = .ok (.iload_n 3, 1) := by decide +kernel
theorem dX9_fitting_18 : decode cX9_fitting 18 = .ok (.if_icmp .ge 78, 3) := by decide +kernel
theorem dX9_fitting_21 : decode cX9_fitting 21 = .ok (.iconst 1, 1) := by decide +kernel
theorem dX9_fitting_22 : decode cX9_fitting 22 = .ok (.iload 7, 2) := by decide +kernel
theorem dX9_fitting_24 : decode cX9_fitting 24 = .ok (.iload_n 2, 1) := by decide +kernel
theorem dX9_fitting_25 : decode cX9_fitting 25 = .ok (.if_icmp .le 25, 3) := by decide +kernel
theorem dX9_fitting_28 : decode cX9_fitting 28 = .ok (.aload_n 0, 1) := by decide +kernel
theorem dX9_fitting_29 : decode cX9_fitting 29 = .ok (.getfield 101, 3) := by decide +kernel
theorem dX9_fitting_32 : decode cX9_fitting 32 = .ok (.sipush 240, 3) := by decide +kernel
theorem dX9_fitting_35 : decode cX9_fitting 35 = .ok (.iload_n 1, 1) := by decide +kernel
theorem dX9_fitting_36 : decode cX9_fitting 36 = .ok (.imul, 1) := by decide +kernel
theorem dX9_fitting_37 : decode cX9_fitting 37 = .ok (.iload 7, 2) := by decide +kernel
theorem dX9_fitting_39 : decode cX9_fitting 39 = .ok (.iadd, 1) := by decide +kernel
theorem dX9_fitting_40 : decode cX9_fitting 40 = .ok (.iconst 1, 1) := by decide +kernel
theorem dX9_fitting_41 : decode cX9_fitting 41 = .ok (.isub, 1) := by decide +kernel
theorem dX9_fitting_42 : decode cX9_fitting 42 = .ok (.baload, 1) := by decide +kernel
theorem dX9_fitting_43 : decode cX9_fitting 43 = .ok (.ifCond .eq 7, 3) := by decide +kernel
theorem dX9_fitting_46 : decode cX9_fitting 46 = .ok (.iconst 1, 1) := by decide +kernel
theorem dX9_fitting_47 : decode cX9_fitting 47 = .ok (.goto 4, 3) := by decide +kernel
theorem dX9_fitting_50 : decode cX9_fitting 50 = .ok (.iconst 0, 1) := by decide +kernel
theorem dX9_fitting_51 : decode cX9_fitting 51 = .ok (.iadd, 1) := by decide +kernel
theorem dX9_fitting_52 : decode cX9_fitting 52 = .ok (.istore 9, 2) := by decide +kernel
theorem dX9_fitting_54 : decode cX9_fitting 54 = .ok (.iload 6, 2) := by decide +kernel
theorem dX9_fitting_56 : decode cX9_fitting 56 = .ok (.iload 9, 2) := by decide +kernel
theorem dX9_fitting_58 : decode cX9_fitting 58 = .ok (.iadd, 1) := by decide +kernel
theorem dX9_fitting_59 : decode cX9_fitting 59 = .ok (.iload 5, 2) := by decide +kernel
theorem dX9_fitting_61 : decode cX9_fitting 61 = .ok (.if_icmp .gt 7, 3) := by decide +kernel
theorem dX9_fitting_64 : decode cX9_fitting 64 = .ok (.iconst 1, 1) := by decide +kernel
theorem dX9_fitting_65 : decode cX9_fitting 65 = .ok (.goto 4, 3) := by decide +kernel
theorem dX9_fitting_68 : decode cX9_fitting 68 = .ok (.iconst 0, 1) := by decide +kernel
theorem dX9_fitting_69 : decode cX9_fitting 69 = .ok (.istore 8, 2) := by decide +kernel
theorem dX9_fitting_71 : decode cX9_fitting 71 = .ok (.iload 6, 2) := by decide +kernel
theorem dX9_fitting_73 : decode cX9_fitting 73 = .ok (.iload 9, 2) := by decide +kernel
theorem dX9_fitting_75 : decode cX9_fitting 75 = .ok (.iadd, 1) := by decide +kernel
theorem dX9_fitting_76 : decode cX9_fitting 76 = .ok (.istore 6, 2) := by decide +kernel
theorem dX9_fitting_78 : decode cX9_fitting 78 = .ok (.iload 7, 2) := by decide +kernel
theorem dX9_fitting_80 : decode cX9_fitting 80 = .ok (.iload 8, 2) := by decide +kernel
theorem dX9_fitting_82 : decode cX9_fitting 82 = .ok (.ifCond .eq 7, 3) := by decide +kernel
theorem dX9_fitting_85 : decode cX9_fitting 85 = .ok (.iconst 1, 1) := by decide +kernel
theorem dX9_fitting_86 : decode cX9_fitting 86 = .ok (.goto 4, 3) := by decide +kernel
theorem dX9_fitting_89 : decode cX9_fitting 89 = .ok (.iconst 0, 1) := by decide +kernel
theorem dX9_fitting_90 : decode cX9_fitting 90 = .ok (.iadd, 1) := by decide +kernel
theorem dX9_fitting_91 : decode cX9_fitting 91 = .ok (.istore 7, 2) := by decide +kernel
theorem dX9_fitting_93 : decode cX9_fitting 93 = .ok (.goto (-83), 3) := by decide +kernel
theorem dX9_fitting_96 : decode cX9_fitting 96 = .ok (.iload 7, 2) := by decide +kernel
theorem dX9_fitting_98 : decode cX9_fitting 98 = .ok (.iload_n 2, 1) := by decide +kernel
theorem dX9_fitting_99 : decode cX9_fitting 99 = .ok (.isub, 1) := by decide +kernel
theorem dX9_fitting_100 : decode cX9_fitting 100 = .ok (.ireturn, 1) := by decide +kernel
theorem dX9_make_0 : decode cX9_make 0 = .ok (.iload_n 1, 1) := by decide +kernel
theorem dX9_make_1 : decode cX9_make 1 = .ok (.iload_n 2, 1) := by decide +kernel
theorem dX9_make_2 : decode cX9_make 2 = .ok (.invokestatic 258, 3) := by decide +kernel
theorem dX9_make_5 : decode cX9_make 5 = .ok (.istore 4, 2) := by decide +kernel
theorem dX9_make_7 : decode cX9_make 7 = .ok (.aload_n 0, 1) := by decide +kernel
theorem dX9_make_8 : decode cX9_make 8 = .ok (.getfield 137, 3) := by decide +kernel
theorem dX9_make_11 : decode cX9_make 11 = .ok (.iload 4, 2) := by decide +kernel
theorem dX9_make_13 : decode cX9_make 13 = .ok (.baload, 1) := by decide +kernel
theorem dX9_make_14 : decode cX9_make 14 = .ok (.ifCond .eq 26, 3) := by decide +kernel
theorem dX9_make_17 : decode cX9_make 17 = .ok (.aload_n 0, 1) := by decide +kernel
theorem dX9_make_18 : decode cX9_make 18 = .ok (.getfield 122, 3) := by decide +kernel
theorem dX9_make_21 : decode cX9_make 21 = .ok (.iload 4, 2) := by decide +kernel
theorem dX9_make_23 : decode cX9_make 23 = .ok (.iaload, 1) := by decide +kernel
theorem dX9_make_24 : decode cX9_make 24 = .ok (.ifCond .ne 16, 3) := by decide +kernel
theorem dX9_make_27 : decode cX9_make 27 = .ok (.iload_n 3, 1) := by decide +kernel
theorem dX9_make_28 : decode cX9_make 28 = .ok (.iconst 2, 1) := by decide +kernel
theorem dX9_make_29 : decode cX9_make 29 = .ok (.if_icmp .lt 11, 3) := by decide +kernel
theorem dX9_make_32 : decode cX9_make 32 = .ok (.aload_n 0, 1) := by decide +kernel
theorem dX9_make_33 : decode cX9_make 33 = .ok (.iload 4, 2) := by decide +kernel
theorem dX9_make_35 : decode cX9_make 35 = .ok (.iload_n 3, 1) := by decide +kernel
theorem dX9_make_36 : decode cX9_make 36 = .ok (.invokevirtual 286, 3) := by decide +kernel
theorem dX9_make_39 : decode cX9_make 39 = .ok (.ireturn, 1) := by decide +kernel
theorem dX9_make_40 : decode cX9_make 40 = .ok (.aload_n 0, 1) := by decide +kernel
theorem dX9_make_41 : decode cX9_make 41 = .ok (.getfield 47, 3) := by decide +kernel
theorem dX9_make_44 : decode cX9_make 44 = .ok (.iload 4, 2) := by decide +kernel
theorem dX9_make_46 : decode cX9_make 46 = .ok (.baload, 1) := by decide +kernel
theorem dX9_make_47 : decode cX9_make 47 = .ok (.ifCond .eq 5, 3) := by decide +kernel
theorem dX9_make_50 : decode cX9_make 50 = .ok (.iconst 0, 1) := by decide +kernel
theorem dX9_make_51 : decode cX9_make 51 = .ok (.ireturn, 1) := by decide +kernel
theorem dX9_make_52 : decode cX9_make 52 = .ok (.aload_n 0, 1) := by decide +kernel
theorem dX9_make_53 : decode cX9_make 53 = .ok (.iload 4, 2) := by decide +kernel
theorem dX9_make_55 : decode cX9_make 55 = .ok (.invokevirtual 289, 3) := by decide +kernel
theorem dX9_make_58 : decode cX9_make 58 = .ok (.ifCond .le 11, 3) := by decide +kernel
theorem dX9_make_61 : decode cX9_make 61 = .ok (.aload_n 0, 1) := by decide +kernel
theorem dX9_make_62 : decode cX9_make 62 = .ok (.iload 4, 2) := by decide +kernel
theorem dX9_make_64 : decode cX9_make 64 = .ok (.iload_n 3, 1) := by decide +kernel
theorem dX9_make_65 : decode cX9_make 65 = .ok (.invokevirtual 292, 3) := by decide +kernel
theorem dX9_make_68 : decode cX9_make 68 = .ok (.ireturn, 1) := by decide +kernel
theorem dX9_make_69 : decode cX9_make 69 = .ok (.aload_n 0, 1) := by decide +kernel
theorem dX9_make_70 : decode cX9_make 70 = .ok (.getfield 74, 3) := by decide +kernel
theorem dX9_make_73 : decode cX9_make 73 = .ok (.iload 4, 2) := by decide +kernel
theorem dX9_make_75 : decode cX9_make 75 = .ok (.iaload, 1) := by decide +kernel
theorem dX9_make_76 : decode cX9_make 76 = .ok (.ifCond .eq 28, 3) := by decide +kernel
theorem dX9_make_79 : decode cX9_make 79 = .ok (.aload_n 0, 1) := by decide +kernel
theorem dX9_make_80 : decode cX9_make 80 = .ok (.getfield 19, 3) := by decide +kernel
theorem dX9_make_83 : decode cX9_make 83 = .ok (.iload 4, 2) := by decide +kernel
theorem dX9_make_85 : decode cX9_make 85 = .ok (.iaload, 1) := by decide +kernel
theorem dX9_make_86 : decode cX9_make 86 = .ok (.aload_n 0, 1) := by decide +kernel
theorem dX9_make_87 : decode cX9_make 87 = .ok (.getfield 16, 3) := by decide +kernel
theorem dX9_make_90 : decode cX9_make 90 = .ok (.iload 4, 2) := by decide +kernel
theorem dX9_make_92 : decode cX9_make 92 = .ok (.iaload, 1) := by decide +kernel
theorem dX9_make_93 : decode cX9_make 93 = .ok (.isub, 1) := by decide +kernel
theorem dX9_make_94 : decode cX9_make 94 = .ok (.bipush 16, 2) := by decide +kernel
theorem dX9_make_96 : decode cX9_make 96 = .ok (.if_icmp .ge 8, 3) := by decide +kernel
theorem dX9_make_99 : decode cX9_make 99 = .ok (.iload_n 3, 1) := by decide +kernel
theorem dX9_make_100 : decode cX9_make 100 = .ok (.iconst 3, 1) := by decide +kernel
theorem dX9_make_101 : decode cX9_make 101 = .ok (.if_icmp .ge 5, 3) := by decide +kernel
theorem dX9_make_104 : decode cX9_make 104 = .ok (.iconst 0, 1) := by decide +kernel
theorem dX9_make_105 : decode cX9_make 105 = .ok (.ireturn, 1) := by decide +kernel
theorem dX9_make_106 : decode cX9_make 106 = .ok (.bipush 16, 2) := by decide +kernel
theorem dX9_make_108 : decode cX9_make 108 = .ok (.iload 4, 2) := by decide +kernel
theorem dX9_make_110 : decode cX9_make 110 = .ok (.imul, 1) := by decide +kernel
theorem dX9_make_111 : decode cX9_make 111 = .ok (.aload_n 0, 1) := by decide +kernel
theorem dX9_make_112 : decode cX9_make 112 = .ok (.getfield 19, 3) := by decide +kernel
theorem dX9_make_115 : decode cX9_make 115 = .ok (.iload 4, 2) := by decide +kernel
theorem dX9_make_117 : decode cX9_make 117 = .ok (.iaload, 1) := by decide +kernel
theorem dX9_make_118 : decode cX9_make 118 = .ok (.bipush 15, 2) := by decide +kernel
theorem dX9_make_120 : decode cX9_make 120 = .ok (.iand, 1) := by decide +kernel
theorem dX9_make_121 : decode cX9_make 121 = .ok (.iadd, 1) := by decide +kernel
theorem dX9_make_122 : decode cX9_make 122 = .ok (.istore 5, 2) := by decide +kernel
theorem dX9_make_124 : decode cX9_make 124 = .ok (.aload_n 0, 1) := by decide +kernel
theorem dX9_make_125 : decode cX9_make 125 = .ok (.getfield 74, 3) := by decide +kernel
theorem dX9_make_128 : decode cX9_make 128 = .ok (.iload 4, 2) := by decide +kernel
theorem dX9_make_130 : decode cX9_make 130 = .ok (.iaload, 1) := by decide +kernel
theorem dX9_make_131 : decode cX9_make 131 = .ok (.sipush 240, 3) := by decide +kernel
theorem dX9_make_134 : decode cX9_make 134 = .ok (.if_icmp .ge 13, 3) := by decide +kernel
theorem dX9_make_137 : decode cX9_make 137 = .ok (.aload_n 0, 1) := by decide +kernel
theorem dX9_make_138 : decode cX9_make 138 = .ok (.getfield 74, 3) := by decide +kernel
theorem dX9_make_141 : decode cX9_make 141 = .ok (.iload 4, 2) := by decide +kernel
theorem dX9_make_143 : decode cX9_make 143 = .ok (.iaload, 1) := by decide +kernel
theorem dX9_make_144 : decode cX9_make 144 = .ok (.goto 6, 3) := by decide +kernel
theorem dX9_make_147 : decode cX9_make 147 = .ok (.sipush 240, 3) := by decide +kernel
theorem dX9_make_150 : decode cX9_make 150 = .ok (.istore 6, 2) := by decide +kernel
theorem dX9_make_152 : decode cX9_make 152 = .ok (.iconst 0, 1) := by decide +kernel
theorem dX9_make_153 : decode cX9_make 153 = .ok (.istore 7, 2) := by decide +kernel
theorem dX9_make_155 : decode cX9_make 155 = .ok (.iload 7, 2) := by decide +kernel
theorem dX9_make_157 : decode cX9_make 157 = .ok (.iload 6, 2) := by decide +kernel
theorem dX9_make_159 : decode cX9_make 159 = .ok (.if_icmp .ge 119, 3) := by decide +kernel
theorem dX9_make_162 : decode cX9_make 162 = .ok (.sipush 4400, 3) := by decide +kernel
theorem dX9_make_165 : decode cX9_make 165 = .ok (.iload 4, 2) := by decide +kernel
theorem dX9_make_167 : decode cX9_make 167 = .ok (.imul, 1) := by decide +kernel
theorem dX9_make_168 : decode cX9_make 168 = .ok (.iload 7, 2) := by decide +kernel
theorem dX9_make_170 : decode cX9_make 170 = .ok (.iadd, 1) := by decide +kernel
theorem dX9_make_171 : decode cX9_make 171 = .ok (.istore 8, 2) := by decide +kernel
theorem dX9_make_173 : decode cX9_make 173 = .ok (.aload_n 0, 1) := by decide +kernel
theorem dX9_make_174 : decode cX9_make 174 = .ok (.getfield 89, 3) := by decide +kernel
theorem dX9_make_177 : decode cX9_make 177 = .ok (.sipush 240, 3) := by decide +kernel
theorem dX9_make_180 : decode cX9_make 180 = .ok (.iload 5, 2) := by decide +kernel
theorem dX9_make_182 : decode cX9_make 182 = .ok (.imul, 1) := by decide +kernel
theorem dX9_make_183 : decode cX9_make 183 = .ok (.iload 7, 2) := by decide +kernel
theorem dX9_make_185 : decode cX9_make 185 = .ok (.iadd, 1) := by decide +kernel
theorem dX9_make_186 : decode cX9_make 186 = .ok (.aload_n 0, 1) := by decide +kernel
theorem dX9_make_187 : decode cX9_make 187 = .ok (.getfield 68, 3) := by decide +kernel
theorem dX9_make_190 : decode cX9_make 190 = .ok (.iload 8, 2) := by decide +kernel
theorem dX9_make_192 : decode cX9_make 192 = .ok (.iaload, 1) := by decide +kernel
theorem dX9_make_193 : decode cX9_make 193 = .ok (.iastore, 1) := by decide +kernel
theorem dX9_make_194 : decode cX9_make 194 = .ok (.aload_n 0, 1) := by decide +kernel
theorem dX9_make_195 : decode cX9_make 195 = .ok (.getfield 92, 3) := by decide +kernel
theorem dX9_make_198 : decode cX9_make 198 = .ok (.sipush 240, 3) := by decide +kernel
theorem dX9_make_201 : decode cX9_make 201 = .ok (.iload 5, 2) := by decide +kernel
theorem dX9_make_203 : decode cX9_make 203 = .ok (.imul, 1) := by decide +kernel
theorem dX9_make_204 : decode cX9_make 204 = .ok (.iload 7, 2) := by decide +kernel
theorem dX9_make_206 : decode cX9_make 206 = .ok (.iadd, 1) := by decide +kernel
theorem dX9_make_207 : decode cX9_make 207 = .ok (.aload_n 0, 1) := by decide +kernel
theorem dX9_make_208 : decode cX9_make 208 = .ok (.getfield 71, 3) := by decide +kernel
theorem dX9_make_211 : decode cX9_make 211 = .ok (.iload 8, 2) := by decide +kernel
theorem dX9_make_213 : decode cX9_make 213 = .ok (.iaload, 1) := by decide +kernel
theorem dX9_make_214 : decode cX9_make 214 = .ok (.iastore, 1) := by decide +kernel
theorem dX9_make_215 : decode cX9_make 215 = .ok (.aload_n 0, 1) := by decide +kernel
theorem dX9_make_216 : decode cX9_make 216 = .ok (.getfield 98, 3) := by decide +kernel
theorem dX9_make_219 : decode cX9_make 219 = .ok (.sipush 240, 3) := by decide +kernel
theorem dX9_make_222 : decode cX9_make 222 = .ok (.iload 5, 2) := by decide +kernel
theorem dX9_make_224 : decode cX9_make 224 = .ok (.imul, 1) := by decide +kernel
theorem dX9_make_225 : decode cX9_make 225 = .ok (.iload 7, 2) := by decide +kernel
theorem dX9_make_227 : decode cX9_make 227 = .ok (.iadd, 1) := by decide +kernel
theorem dX9_make_228 : decode cX9_make 228 = .ok (.aload_n 0, 1) := by decide +kernel
theorem dX9_make_229 : decode cX9_make 229 = .ok (.getfield 77, 3) := by decide +kernel
theorem dX9_make_232 : decode cX9_make 232 = .ok (.iload 8, 2) := by decide +kernel
theorem dX9_make_234 : decode cX9_make 234 = .ok (.baload, 1) := by decide +kernel
theorem dX9_make_235 : decode cX9_make 235 = .ok (.bastore, 1) := by decide +kernel
theorem dX9_make_236 : decode cX9_make 236 = .ok (.aload_n 0, 1) := by decide +kernel
theorem dX9_make_237 : decode cX9_make 237 = .ok (.getfield 101, 3) := by decide +kernel
theorem dX9_make_240 : decode cX9_make 240 = .ok (.sipush 240, 3) := by decide +kernel
theorem dX9_make_243 : decode cX9_make 243 = .ok (.iload 5, 2) := by decide +kernel
theorem dX9_make_245 : decode cX9_make 245 = .ok (.imul, 1) := by decide +kernel
theorem dX9_make_246 : decode cX9_make 246 = .ok (.iload 7, 2) := by decide +kernel
theorem dX9_make_248 : decode cX9_make 248 = .ok (.iadd, 1) := by decide +kernel
theorem dX9_make_249 : decode cX9_make 249 = .ok (.aload_n 0, 1) := by decide +kernel
theorem dX9_make_250 : decode cX9_make 250 = .ok (.getfield 80, 3) := by decide +kernel
theorem dX9_make_253 : decode cX9_make 253 = .ok (.iload 8, 2) := by decide +kernel
theorem dX9_make_255 : decode cX9_make 255 = .ok (.baload, 1) := by decide +kernel
theorem dX9_make_256 : decode cX9_make 256 = .ok (.bastore, 1) := by decide +kernel
theorem dX9_make_257 : decode cX9_make 257 = .ok (.aload_n 0, 1) := by decide +kernel
theorem dX9_make_258 : decode cX9_make 258 = .ok (.getfield 104, 3) := by decide +kernel
theorem dX9_make_261 : decode cX9_make 261 = .ok (.sipush 240, 3) := by decide +kernel
theorem dX9_make_264 : decode cX9_make 264 = .ok (.iload 5, 2) := by decide +kernel
theorem dX9_make_266 : decode cX9_make 266 = .ok (.imul, 1) := by decide +kernel
theorem dX9_make_267 : decode cX9_make 267 = .ok (.iload 7, 2) := by decide +kernel
theorem dX9_make_269 : decode cX9_make 269 = .ok (.iadd, 1) := by decide +kernel
theorem dX9_make_270 : decode cX9_make 270 = .ok (.iconst 0, 1) := by decide +kernel
theorem dX9_make_271 : decode cX9_make 271 = .ok (.bastore, 1) := by decide +kernel
theorem dX9_make_272 : decode cX9_make 272 = .ok (.iinc 7 1, 3) := by decide +kernel
theorem dX9_make_275 : decode cX9_make 275 = .ok (.goto (-120), 3) := by decide +kernel
theorem dX9_make_278 : decode cX9_make 278 = .ok (.aload_n 0, 1) := by decide +kernel
theorem dX9_make_279 : decode cX9_make 279 = .ok (.getfield 83, 3) := by decide +kernel
theorem dX9_make_282 : decode cX9_make 282 = .ok (.iload 5, 2) := by decide +kernel
theorem dX9_make_284 : decode cX9_make 284 = .ok (.aload_n 0, 1) := by decide +kernel
theorem dX9_make_285 : decode cX9_make 285 = .ok (.iload 5, 2) := by decide +kernel
theorem dX9_make_287 : decode cX9_make 287 = .ok (.iconst 0, 1) := by decide +kernel
theorem dX9_make_288 : decode cX9_make 288 = .ok (.iload 6, 2) := by decide +kernel
theorem dX9_make_290 : decode cX9_make 290 = .ok (.iconst 2, 1) := by decide +kernel
theorem dX9_make_291 : decode cX9_make 291 = .ok (.iload_n 3, 1) := by decide +kernel
theorem dX9_make_292 : decode cX9_make 292 = .ok (.invokevirtual 295, 3) := by decide +kernel
theorem dX9_make_295 : decode cX9_make 295 = .ok (.iastore, 1) := by decide +kernel
theorem dX9_make_296 : decode cX9_make 296 = .ok (.aload_n 0, 1) := by decide +kernel
theorem dX9_make_297 : decode cX9_make 297 = .ok (.getfield 86, 3) := by decide +kernel
theorem dX9_make_300 : decode cX9_make 300 = .ok (.iload 5, 2) := by decide +kernel
theorem dX9_make_302 : decode cX9_make 302 = .ok (.iconst 0, 1) := by decide +kernel
theorem dX9_make_303 : decode cX9_make 303 = .ok (.iastore, 1) := by decide +kernel
theorem dX9_make_304 : decode cX9_make 304 = .ok (.aload_n 0, 1) := by decide +kernel
theorem dX9_make_305 : decode cX9_make 305 = .ok (.getfield 95, 3) := by decide +kernel
theorem dX9_make_308 : decode cX9_make 308 = .ok (.iload 5, 2) := by decide +kernel
theorem dX9_make_310 : decode cX9_make 310 = .ok (.iconst 0, 1) := by decide +kernel
theorem dX9_make_311 : decode cX9_make 311 = .ok (.bastore, 1) := by decide +kernel
theorem dX9_make_312 : decode cX9_make 312 = .ok (.aload_n 0, 1) := by decide +kernel
theorem dX9_make_313 : decode cX9_make 313 = .ok (.iload 4, 2) := by decide +kernel
theorem dX9_make_315 : decode cX9_make 315 = .ok (.iconst 0, 1) := by decide +kernel
theorem dX9_make_316 : decode cX9_make 316 = .ok (.aload_n 0, 1) := by decide +kernel
theorem dX9_make_317 : decode cX9_make 317 = .ok (.getfield 83, 3) := by decide +kernel
theorem dX9_make_320 : decode cX9_make 320 = .ok (.iload 5, 2) := by decide +kernel
theorem dX9_make_322 : decode cX9_make 322 = .ok (.iaload, 1) := by decide +kernel
theorem dX9_make_323 : decode cX9_make 323 = .ok (.invokevirtual 280, 3) := by decide +kernel
theorem dX9_make_326 : decode cX9_make 326 = .ok (.aload_n 0, 1) := by decide +kernel
theorem dX9_make_327 : decode cX9_make 327 = .ok (.getfield 19, 3) := by decide +kernel
theorem dX9_make_330 : decode cX9_make 330 = .ok (.iload 4, 2) := by decide +kernel
theorem dX9_make_332 : decode cX9_make 332 = .ok (.dup2, 1) := by decide +kernel
theorem dX9_make_333 : decode cX9_make 333 = .ok (.iaload, 1) := by decide +kernel
theorem dX9_make_334 : decode cX9_make 334 = .ok (.iconst 1, 1) := by decide +kernel
theorem dX9_make_335 : decode cX9_make 335 = .ok (.iadd, 1) := by decide +kernel
theorem dX9_make_336 : decode cX9_make 336 = .ok (.iastore, 1) := by decide +kernel
theorem dX9_make_337 : decode cX9_make 337 = .ok (.aload_n 0, 1) := by decide +kernel
theorem dX9_make_338 : decode cX9_make 338 = .ok (.iload 4, 2) := by decide +kernel
theorem dX9_make_340 : decode cX9_make 340 = .ok (.aload_n 0, 1) := by decide +kernel
theorem dX9_make_341 : decode cX9_make 341 = .ok (.getfield 19, 3) := by decide +kernel
theorem dX9_make_344 : decode cX9_make 344 = .ok (.iload 4, 2) := by decide +kernel
theorem dX9_make_346 : decode cX9_make 346 = .ok (.iaload, 1) := by decide +kernel
theorem dX9_make_347 : decode cX9_make 347 = .ok (.iconst 1, 1) := by decide +kernel
theorem dX9_make_348 : decode cX9_make 348 = .ok (.isub, 1) := by decide +kernel
theorem dX9_make_349 : decode cX9_make 349 = .ok (.iconst 0, 1) := by decide +kernel
theorem dX9_make_350 : decode cX9_make 350 = .ok (.aload_n 0, 1) := by decide +kernel
theorem dX9_make_351 : decode cX9_make 351 = .ok (.getfield 83, 3) := by decide +kernel
theorem dX9_make_354 : decode cX9_make 354 = .ok (.iload 5, 2) := by decide +kernel
theorem dX9_make_356 : decode cX9_make 356 = .ok (.iaload, 1) := by decide +kernel
theorem dX9_make_357 : decode cX9_make 357 = .ok (.iconst 0, 1) := by decide +kernel
theorem dX9_make_358 : decode cX9_make 358 = .ok (.invokevirtual 299, 3) := by decide +kernel
theorem dX9_make_361 : decode cX9_make 361 = .ok (.ireturn, 1) := by decide +kernel
theorem dX9_makeAgain_0 : decode cX9_makeAgain 0 = .ok (.aload_n 0, 1) := by decide +kernel
theorem dX9_makeAgain_1 : decode cX9_makeAgain 1 = .ok (.getfield 16, 3) := by decide +kernel
theorem dX9_makeAgain_4 : decode cX9_makeAgain 4 = .ok (.iload_n 1, 1) := by decide +kernel
theorem dX9_makeAgain_5 : decode cX9_makeAgain 5 = .ok (.iaload, 1) := by decide +kernel
theorem dX9_makeAgain_6 : decode cX9_makeAgain 6 = .ok (.istore_n 3, 1) := by decide +kernel
theorem dX9_makeAgain_7 : decode cX9_makeAgain 7 = .ok (.aload_n 0, 1) := by decide +kernel
theorem dX9_makeAgain_8 : decode cX9_makeAgain 8 = .ok (.iload_n 1, 1) := by decide +kernel
theorem dX9_makeAgain_9 : decode cX9_makeAgain 9 = .ok (.iload_n 3, 1) := by decide +kernel
theorem dX9_makeAgain_10 : decode cX9_makeAgain 10 = .ok (.invokevirtual 283, 3) := by decide +kernel
theorem dX9_makeAgain_13 : decode cX9_makeAgain 13 = .ok (.ifCond .ne 9, 3) := by decide +kernel
theorem dX9_makeAgain_16 : decode cX9_makeAgain 16 = .ok (.iinc 3 1, 3) := by decide +kernel
theorem dX9_makeAgain_19 : decode cX9_makeAgain 19 = .ok (.goto (-12), 3) := by decide +kernel
theorem dX9_makeAgain_22 : decode cX9_makeAgain 22 = .ok (.bipush 16, 2) := by decide +kernel
theorem dX9_makeAgain_24 : decode cX9_makeAgain 24 = .ok (.iload_n 1, 1) := by decide +kernel
theorem dX9_makeAgain_25 : decode cX9_makeAgain 25 = .ok (.imul, 1) := by decide +kernel
theorem dX9_makeAgain_26 : decode cX9_makeAgain 26 = .ok (.iload_n 3, 1) := by decide +kernel
theorem dX9_makeAgain_27 : decode cX9_makeAgain 27 = .ok (.bipush 15, 2) := by decide +kernel
theorem dX9_makeAgain_29 : decode cX9_makeAgain 29 = .ok (.iand, 1) := by decide +kernel
theorem dX9_makeAgain_30 : decode cX9_makeAgain 30 = .ok (.iadd, 1) := by decide +kernel
theorem dX9_makeAgain_31 : decode cX9_makeAgain 31 = .ok (.istore 4, 2) := by decide +kernel
theorem dX9_makeAgain_33 : decode cX9_makeAgain 33 = .ok (.iconst 0, 1) := by decide +kernel
theorem dX9_makeAgain_34 : decode cX9_makeAgain 34 = .ok (.istore 5, 2) := by decide +kernel
theorem dX9_makeAgain_36 : decode cX9_makeAgain 36 = .ok (.aload_n 0, 1) := by decide +kernel
theorem dX9_makeAgain_37 : decode cX9_makeAgain 37 = .ok (.getfield 104, 3) := by decide +kernel
theorem dX9_makeAgain_40 : decode cX9_makeAgain 40 = .ok (.sipush 240, 3) := by decide +kernel
theorem dX9_makeAgain_43 : decode cX9_makeAgain 43 = .ok (.iload 4, 2) := by decide +kernel
theorem dX9_makeAgain_45 : decode cX9_makeAgain 45 = .ok (.imul, 1) := by decide +kernel
theorem dX9_makeAgain_46 : decode cX9_makeAgain 46 = .ok (.iload 5, 2) := by decide +kernel
theorem dX9_makeAgain_48 : decode cX9_makeAgain 48 = .ok (.iadd, 1) := by decide +kernel
theorem dX9_makeAgain_49 : decode cX9_makeAgain 49 = .ok (.baload, 1) := by decide +kernel
theorem dX9_makeAgain_50 : decode cX9_makeAgain 50 = .ok (.ifCond .ne 9, 3) := by decide +kernel
theorem dX9_makeAgain_53 : decode cX9_makeAgain 53 = .ok (.iinc 5 1, 3) := by decide +kernel
theorem dX9_makeAgain_56 : decode cX9_makeAgain 56 = .ok (.goto (-20), 3) := by decide +kernel
theorem dX9_makeAgain_59 : decode cX9_makeAgain 59 = .ok (.iload 5, 2) := by decide +kernel
theorem dX9_makeAgain_61 : decode cX9_makeAgain 61 = .ok (.istore 6, 2) := by decide +kernel
theorem dX9_makeAgain_63 : decode cX9_makeAgain 63 = .ok (.iload 6, 2) := by decide +kernel
theorem dX9_makeAgain_65 : decode cX9_makeAgain 65 = .ok (.aload_n 0, 1) := by decide +kernel
theorem dX9_makeAgain_66 : decode cX9_makeAgain 66 = .ok (.getfield 83, 3) := by decide +kernel
theorem dX9_makeAgain_69 : decode cX9_makeAgain 69 = .ok (.iload 4, 2) := by decide +kernel
theorem dX9_makeAgain_71 : decode cX9_makeAgain 71 = .ok (.iaload, 1) := by decide +kernel
theorem dX9_makeAgain_72 : decode cX9_makeAgain 72 = .ok (.if_icmp .ge 26, 3) := by decide +kernel
theorem dX9_makeAgain_75 : decode cX9_makeAgain 75 = .ok (.aload_n 0, 1) := by decide +kernel
theorem dX9_makeAgain_76 : decode cX9_makeAgain 76 = .ok (.getfield 104, 3) := by decide +kernel
theorem dX9_makeAgain_79 : decode cX9_makeAgain 79 = .ok (.sipush 240, 3) := by decide +kernel
theorem dX9_makeAgain_82 : decode cX9_makeAgain 82 = .ok (.iload 4, 2) := by decide +kernel
theorem dX9_makeAgain_84 : decode cX9_makeAgain 84 = .ok (.imul, 1) := by decide +kernel
theorem dX9_makeAgain_85 : decode cX9_makeAgain 85 = .ok (.iload 6, 2) := by decide +kernel
theorem dX9_makeAgain_87 : decode cX9_makeAgain 87 = .ok (.iadd, 1) := by decide +kernel
theorem dX9_makeAgain_88 : decode cX9_makeAgain 88 = .ok (.baload, 1) := by decide +kernel
theorem dX9_makeAgain_89 : decode cX9_makeAgain 89 = .ok (.ifCond .eq 9, 3) := by decide +kernel
theorem dX9_makeAgain_92 : decode cX9_makeAgain 92 = .ok (.iinc 6 1, 3) := by decide +kernel
theorem dX9_makeAgain_95 : decode cX9_makeAgain 95 = .ok (.goto (-32), 3) := by decide +kernel
theorem dX9_makeAgain_98 : decode cX9_makeAgain 98 = .ok (.iload 5, 2) := by decide +kernel
theorem dX9_makeAgain_100 : decode cX9_makeAgain 100 = .ok (.ifCond .ne 35, 3) := by decide +kernel
theorem dX9_makeAgain_103 : decode cX9_makeAgain 103 = .ok (.iload 6, 2) := by decide +kernel
theorem dX9_makeAgain_105 : decode cX9_makeAgain 105 = .ok (.aload_n 0, 1) := by decide +kernel
theorem dX9_makeAgain_106 : decode cX9_makeAgain 106 = .ok (.getfield 83, 3) := by decide +kernel
theorem dX9_makeAgain_109 : decode cX9_makeAgain 109 = .ok (.iload 4, 2) := by decide +kernel
theorem dX9_makeAgain_111 : decode cX9_makeAgain 111 = .ok (.iaload, 1) := by decide +kernel
theorem dX9_makeAgain_112 : decode cX9_makeAgain 112 = .ok (.if_icmp .ne 23, 3) := by decide +kernel
theorem dX9_makeAgain_115 : decode cX9_makeAgain 115 = .ok (.aload_n 0, 1) := by decide +kernel
theorem dX9_makeAgain_116 : decode cX9_makeAgain 116 = .ok (.iload 4, 2) := by decide +kernel
theorem dX9_makeAgain_118 : decode cX9_makeAgain 118 = .ok (.iconst 0, 1) := by decide +kernel
theorem dX9_makeAgain_119 : decode cX9_makeAgain 119 = .ok (.iload 6, 2) := by decide +kernel
theorem dX9_makeAgain_121 : decode cX9_makeAgain 121 = .ok (.iconst 2, 1) := by decide +kernel
theorem dX9_makeAgain_122 : decode cX9_makeAgain 122 = .ok (.iload_n 2, 1) := by decide +kernel
theorem dX9_makeAgain_123 : decode cX9_makeAgain 123 = .ok (.invokevirtual 295, 3) := by decide +kernel
theorem dX9_makeAgain_126 : decode cX9_makeAgain 126 = .ok (.iload 6, 2) := by decide +kernel
theorem dX9_makeAgain_128 : decode cX9_makeAgain 128 = .ok (.if_icmp .ne 7, 3) := by decide +kernel
theorem dX9_makeAgain_131 : decode cX9_makeAgain 131 = .ok (.iconst 1, 1) := by decide +kernel
theorem dX9_makeAgain_132 : decode cX9_makeAgain 132 = .ok (.goto 4, 3) := by decide +kernel
theorem dX9_makeAgain_135 : decode cX9_makeAgain 135 = .ok (.iconst 0, 1) := by decide +kernel
theorem dX9_makeAgain_136 : decode cX9_makeAgain 136 = .ok (.istore 7, 2) := by decide +kernel
theorem dX9_makeAgain_138 : decode cX9_makeAgain 138 = .ok (.iload 7, 2) := by decide +kernel
theorem dX9_makeAgain_140 : decode cX9_makeAgain 140 = .ok (.ifCond .ne 10, 3) := by decide +kernel
theorem dX9_makeAgain_143 : decode cX9_makeAgain 143 = .ok (.iload_n 2, 1) := by decide +kernel
theorem dX9_makeAgain_144 : decode cX9_makeAgain 144 = .ok (.iconst 4, 1) := by decide +kernel
theorem dX9_makeAgain_145 : decode cX9_makeAgain 145 = .ok (.if_icmp .ge 5, 3) := by decide +kernel
theorem dX9_makeAgain_148 : decode cX9_makeAgain 148 = .ok (.iconst 0, 1) := by decide +kernel
theorem dX9_makeAgain_149 : decode cX9_makeAgain 149 = .ok (.ireturn, 1) := by decide +kernel
theorem dX9_makeAgain_150 : decode cX9_makeAgain 150 = .ok (.iload 7, 2) := by decide +kernel
theorem dX9_makeAgain_152 : decode cX9_makeAgain 152 = .ok (.ifCond .ne 20, 3) := by decide +kernel
theorem dX9_makeAgain_155 : decode cX9_makeAgain 155 = .ok (.iload 5, 2) := by decide +kernel
theorem dX9_makeAgain_157 : decode cX9_makeAgain 157 = .ok (.aload_n 0, 1) := by decide +kernel
theorem dX9_makeAgain_158 : decode cX9_makeAgain 158 = .ok (.iload 4, 2) := by decide +kernel
theorem dX9_makeAgain_160 : decode cX9_makeAgain 160 = .ok (.iload 5, 2) := by decide +kernel
theorem dX9_makeAgain_162 : decode cX9_makeAgain 162 = .ok (.iload 6, 2) := by decide +kernel
theorem dX9_makeAgain_164 : decode cX9_makeAgain 164 = .ok (.iconst 3, 1) := by decide +kernel
theorem dX9_makeAgain_165 : decode cX9_makeAgain 165 = .ok (.iload_n 2, 1) := by decide +kernel
theorem dX9_makeAgain_166 : decode cX9_makeAgain 166 = .ok (.invokevirtual 295, 3) := by decide +kernel
theorem dX9_makeAgain_169 : decode cX9_makeAgain 169 = .ok (.iadd, 1) := by decide +kernel
theorem dX9_makeAgain_170 : decode cX9_makeAgain 170 = .ok (.istore 6, 2) := by decide +kernel
theorem dX9_makeAgain_172 : decode cX9_makeAgain 172 = .ok (.iload 5, 2) := by decide +kernel
theorem dX9_makeAgain_174 : decode cX9_makeAgain 174 = .ok (.istore 8, 2) := by decide +kernel
theorem dX9_makeAgain_176 : decode cX9_makeAgain 176 = .ok (.iload 8, 2) := by decide +kernel
theorem dX9_makeAgain_178 : decode cX9_makeAgain 178 = .ok (.iload 6, 2) := by decide +kernel
theorem dX9_makeAgain_180 : decode cX9_makeAgain 180 = .ok (.if_icmp .ge 24, 3) := by decide +kernel
theorem dX9_makeAgain_183 : decode cX9_makeAgain 183 = .ok (.aload_n 0, 1) := by decide +kernel
theorem dX9_makeAgain_184 : decode cX9_makeAgain 184 = .ok (.getfield 104, 3) := by decide +kernel
theorem dX9_makeAgain_187 : decode cX9_makeAgain 187 = .ok (.sipush 240, 3) := by decide +kernel
theorem dX9_makeAgain_190 : decode cX9_makeAgain 190 = .ok (.iload 4, 2) := by decide +kernel
theorem dX9_makeAgain_192 : decode cX9_makeAgain 192 = .ok (.imul, 1) := by decide +kernel
theorem dX9_makeAgain_193 : decode cX9_makeAgain 193 = .ok (.iload 8, 2) := by decide +kernel
theorem dX9_makeAgain_195 : decode cX9_makeAgain 195 = .ok (.iadd, 1) := by decide +kernel
theorem dX9_makeAgain_196 : decode cX9_makeAgain 196 = .ok (.iconst 0, 1) := by decide +kernel
theorem dX9_makeAgain_197 : decode cX9_makeAgain 197 = .ok (.bastore, 1) := by decide +kernel
theorem dX9_makeAgain_198 : decode cX9_makeAgain 198 = .ok (.iinc 8 1, 3) := by decide +kernel
theorem dX9_makeAgain_201 : decode cX9_makeAgain 201 = .ok (.goto (-25), 3) := by decide +kernel
theorem dX9_makeAgain_204 : decode cX9_makeAgain 204 = .ok (.aload_n 0, 1) := by decide +kernel
theorem dX9_makeAgain_205 : decode cX9_makeAgain 205 = .ok (.getfield 37, 3) := by decide +kernel
theorem dX9_makeAgain_208 : decode cX9_makeAgain 208 = .ok (.iload_n 1, 1) := by decide +kernel
theorem dX9_makeAgain_209 : decode cX9_makeAgain 209 = .ok (.dup2, 1) := by decide +kernel
theorem dX9_makeAgain_210 : decode cX9_makeAgain 210 = .ok (.iaload, 1) := by decide +kernel
theorem dX9_makeAgain_211 : decode cX9_makeAgain 211 = .ok (.iconst 1, 1) := by decide +kernel
theorem dX9_makeAgain_212 : decode cX9_makeAgain 212 = .ok (.iadd, 1) := by decide +kernel
theorem dX9_makeAgain_213 : decode cX9_makeAgain 213 = .ok (.iastore, 1) := by decide +kernel
theorem dX9_makeAgain_214 : decode cX9_makeAgain 214 = .ok (.aload_n 0, 1) := by decide +kernel
theorem dX9_makeAgain_215 : decode cX9_makeAgain 215 = .ok (.iload_n 1, 1) := by decide +kernel
theorem dX9_makeAgain_216 : decode cX9_makeAgain 216 = .ok (.iload_n 3, 1) := by decide +kernel
theorem dX9_makeAgain_217 : decode cX9_makeAgain 217 = .ok (.iload 5, 2) := by decide +kernel
theorem dX9_makeAgain_219 : decode cX9_makeAgain 219 = .ok (.iload 6, 2) := by decide +kernel
theorem dX9_makeAgain_221 : decode cX9_makeAgain 221 = .ok (.iload 7, 2) := by decide +kernel
theorem dX9_makeAgain_223 : decode cX9_makeAgain 223 = .ok (.ifCond .ne 7, 3) := by decide +kernel
theorem dX9_makeAgain_226 : decode cX9_makeAgain 226 = .ok (.iconst 1, 1) := by decide +kernel
theorem dX9_makeAgain_227 : decode cX9_makeAgain 227 = .ok (.goto 4, 3) := by decide +kernel
theorem dX9_makeAgain_230 : decode cX9_makeAgain 230 = .ok (.iconst 0, 1) := by decide +kernel
theorem dX9_makeAgain_231 : decode cX9_makeAgain 231 = .ok (.invokevirtual 299, 3) := by decide +kernel
theorem dX9_makeAgain_234 : decode cX9_makeAgain 234 = .ok (.ireturn, 1) := by decide +kernel
theorem dX9_data_0 : decode cX9_data 0 = .ok (.bipush 16, 2) := by decide +kernel
theorem dX9_data_2 : decode cX9_data 2 = .ok (.iload_n 1, 1) := by decide +kernel
theorem dX9_data_3 : decode cX9_data 3 = .ok (.imul, 1) := by decide +kernel
theorem dX9_data_4 : decode cX9_data 4 = .ok (.iload_n 2, 1) := by decide +kernel
theorem dX9_data_5 : decode cX9_data 5 = .ok (.bipush 15, 2) := by decide +kernel
theorem dX9_data_7 : decode cX9_data 7 = .ok (.iand, 1) := by decide +kernel
theorem dX9_data_8 : decode cX9_data 8 = .ok (.iadd, 1) := by decide +kernel
theorem dX9_data_9 : decode cX9_data 9 = .ok (.istore 6, 2) := by decide +kernel
theorem dX9_data_11 : decode cX9_data 11 = .ok (.aload_n 0, 1) := by decide +kernel
theorem dX9_data_12 : decode cX9_data 12 = .ok (.getfield 74, 3) := by decide +kernel
theorem dX9_data_15 : decode cX9_data 15 = .ok (.iload_n 1, 1) := by decide +kernel
theorem dX9_data_16 : decode cX9_data 16 = .ok (.iaload, 1) := by decide +kernel
theorem dX9_data_17 : decode cX9_data 17 = .ok (.ifCond .ne 15, 3) := by decide +kernel
theorem dX9_data_20 : decode cX9_data 20 = .ok (.aload_n 0, 1) := by decide +kernel
theorem dX9_data_21 : decode cX9_data 21 = .ok (.iload_n 1, 1) := by decide +kernel
theorem dX9_data_22 : decode cX9_data 22 = .ok (.invokevirtual 289, 3) := by decide +kernel
theorem dX9_data_25 : decode cX9_data 25 = .ok (.ifCond .ne 7, 3) := by decide +kernel
theorem dX9_data_28 : decode cX9_data 28 = .ok (.iconst 1, 1) := by decide +kernel
theorem dX9_data_29 : decode cX9_data 29 = .ok (.goto 4, 3) := by decide +kernel
theorem dX9_data_32 : decode cX9_data 32 = .ok (.iconst 0, 1) := by decide +kernel
theorem dX9_data_33 : decode cX9_data 33 = .ok (.istore 7, 2) := by decide +kernel
theorem dX9_data_35 : decode cX9_data 35 = .ok (.aload_n 0, 1) := by decide +kernel
theorem dX9_data_36 : decode cX9_data 36 = .ok (.getfield 43, 3) := by decide +kernel
theorem dX9_data_39 : decode cX9_data 39 = .ok (.iload_n 1, 1) := by decide +kernel
theorem dX9_data_40 : decode cX9_data 40 = .ok (.baload, 1) := by decide +kernel
theorem dX9_data_41 : decode cX9_data 41 = .ok (.ifCond .ne 36, 3) := by decide +kernel
theorem dX9_data_44 : decode cX9_data 44 = .ok (.aload_n 0, 1) := by decide +kernel
theorem dX9_data_45 : decode cX9_data 45 = .ok (.getfield 28, 3) := by decide +kernel
theorem dX9_data_48 : decode cX9_data 48 = .ok (.iload_n 1, 1) := by decide +kernel
theorem dX9_data_49 : decode cX9_data 49 = .ok (.iaload, 1) := by decide +kernel
theorem dX9_data_50 : decode cX9_data 50 = .ok (.iconst 3, 1) := by decide +kernel
theorem dX9_data_51 : decode cX9_data 51 = .ok (.if_icmp .ge 26, 3) := by decide +kernel
theorem dX9_data_54 : decode cX9_data 54 = .ok (.iload 7, 2) := by decide +kernel
theorem dX9_data_56 : decode cX9_data 56 = .ok (.ifCond .ne 21, 3) := by decide +kernel
theorem dX9_data_59 : decode cX9_data 59 = .ok (.aload_n 0, 1) := by decide +kernel
theorem dX9_data_60 : decode cX9_data 60 = .ok (.getfield 19, 3) := by decide +kernel
theorem dX9_data_63 : decode cX9_data 63 = .ok (.iload_n 1, 1) := by decide +kernel
theorem dX9_data_64 : decode cX9_data 64 = .ok (.iaload, 1) := by decide +kernel
theorem dX9_data_65 : decode cX9_data 65 = .ok (.aload_n 0, 1) := by decide +kernel
theorem dX9_data_66 : decode cX9_data 66 = .ok (.getfield 16, 3) := by decide +kernel
theorem dX9_data_69 : decode cX9_data 69 = .ok (.iload_n 1, 1) := by decide +kernel
theorem dX9_data_70 : decode cX9_data 70 = .ok (.iaload, 1) := by decide +kernel
theorem dX9_data_71 : decode cX9_data 71 = .ok (.isub, 1) := by decide +kernel
theorem dX9_data_72 : decode cX9_data 72 = .ok (.bipush 16, 2) := by decide +kernel
theorem dX9_data_74 : decode cX9_data 74 = .ok (.if_icmp .ne 7, 3) := by decide +kernel
theorem dX9_data_77 : decode cX9_data 77 = .ok (.iconst 1, 1) := by decide +kernel
theorem dX9_data_78 : decode cX9_data 78 = .ok (.goto 4, 3) := by decide +kernel
theorem dX9_data_81 : decode cX9_data 81 = .ok (.iconst 0, 1) := by decide +kernel
theorem dX9_data_82 : decode cX9_data 82 = .ok (.istore 8, 2) := by decide +kernel
theorem dX9_data_84 : decode cX9_data 84 = .ok (.aload_n 0, 1) := by decide +kernel
theorem dX9_data_85 : decode cX9_data 85 = .ok (.getfield 34, 3) := by decide +kernel
theorem dX9_data_88 : decode cX9_data 88 = .ok (.iload_n 1, 1) := by decide +kernel
theorem dX9_data_89 : decode cX9_data 89 = .ok (.dup2, 1) := by decide +kernel
theorem dX9_data_90 : decode cX9_data 90 = .ok (.iaload, 1) := by decide +kernel
theorem dX9_data_91 : decode cX9_data 91 = .ok (.iconst 1, 1) := by decide +kernel
theorem dX9_data_92 : decode cX9_data 92 = .ok (.iadd, 1) := by decide +kernel
theorem dX9_data_93 : decode cX9_data 93 = .ok (.iastore, 1) := by decide +kernel
theorem dX9_data_94 : decode cX9_data 94 = .ok (.aload_n 0, 1) := by decide +kernel
theorem dX9_data_95 : decode cX9_data 95 = .ok (.getfield 28, 3) := by decide +kernel
theorem dX9_data_98 : decode cX9_data 98 = .ok (.iload_n 1, 1) := by decide +kernel
theorem dX9_data_99 : decode cX9_data 99 = .ok (.dup2, 1) := by decide +kernel
theorem dX9_data_100 : decode cX9_data 100 = .ok (.iaload, 1) := by decide +kernel
theorem dX9_data_101 : decode cX9_data 101 = .ok (.iconst 1, 1) := by decide +kernel
theorem dX9_data_102 : decode cX9_data 102 = .ok (.iadd, 1) := by decide +kernel
theorem dX9_data_103 : decode cX9_data 103 = .ok (.iastore, 1) := by decide +kernel
theorem dX9_data_104 : decode cX9_data 104 = .ok (.iload 8, 2) := by decide +kernel
theorem dX9_data_106 : decode cX9_data 106 = .ok (.ifCond .eq 39, 3) := by decide +kernel
theorem dX9_data_109 : decode cX9_data 109 = .ok (.aload_n 0, 1) := by decide +kernel
theorem dX9_data_110 : decode cX9_data 110 = .ok (.getfield 28, 3) := by decide +kernel
theorem dX9_data_113 : decode cX9_data 113 = .ok (.iload_n 1, 1) := by decide +kernel
theorem dX9_data_114 : decode cX9_data 114 = .ok (.iconst 0, 1) := by decide +kernel
theorem dX9_data_115 : decode cX9_data 115 = .ok (.iastore, 1) := by decide +kernel
theorem dX9_data_116 : decode cX9_data 116 = .ok (.aload_n 0, 1) := by decide +kernel
theorem dX9_data_117 : decode cX9_data 117 = .ok (.getfield 43, 3) := by decide +kernel
theorem dX9_data_120 : decode cX9_data 120 = .ok (.iload_n 1, 1) := by decide +kernel
theorem dX9_data_121 : decode cX9_data 121 = .ok (.iconst 0, 1) := by decide +kernel
theorem dX9_data_122 : decode cX9_data 122 = .ok (.bastore, 1) := by decide +kernel
theorem dX9_data_123 : decode cX9_data 123 = .ok (.aload_n 0, 1) := by decide +kernel
theorem dX9_data_124 : decode cX9_data 124 = .ok (.getfield 25, 3) := by decide +kernel
theorem dX9_data_127 : decode cX9_data 127 = .ok (.iload_n 1, 1) := by decide +kernel
theorem dX9_data_128 : decode cX9_data 128 = .ok (.aload_n 0, 1) := by decide +kernel
theorem dX9_data_129 : decode cX9_data 129 = .ok (.getfield 19, 3) := by decide +kernel
theorem dX9_data_132 : decode cX9_data 132 = .ok (.iload_n 1, 1) := by decide +kernel
theorem dX9_data_133 : decode cX9_data 133 = .ok (.iaload, 1) := by decide +kernel
theorem dX9_data_134 : decode cX9_data 134 = .ok (.iconst 1, 1) := by decide +kernel
theorem dX9_data_135 : decode cX9_data 135 = .ok (.isub, 1) := by decide +kernel
theorem dX9_data_136 : decode cX9_data 136 = .ok (.iastore, 1) := by decide +kernel
theorem dX9_data_137 : decode cX9_data 137 = .ok (.aload_n 0, 1) := by decide +kernel
theorem dX9_data_138 : decode cX9_data 138 = .ok (.getfield 22, 3) := by decide +kernel
theorem dX9_data_141 : decode cX9_data 141 = .ok (.iload_n 1, 1) := by decide +kernel
theorem dX9_data_142 : decode cX9_data 142 = .ok (.bipush 10, 2) := by decide +kernel
theorem dX9_data_144 : decode cX9_data 144 = .ok (.iastore, 1) := by decide +kernel
theorem dX9_data_145 : decode cX9_data 145 = .ok (.iconst 0, 1) := by decide +kernel
theorem dX9_data_146 : decode cX9_data 146 = .ok (.istore 9, 2) := by decide +kernel
theorem dX9_data_148 : decode cX9_data 148 = .ok (.iload_n 3, 1) := by decide +kernel
theorem dX9_data_149 : decode cX9_data 149 = .ok (.istore 10, 2) := by decide +kernel
theorem dX9_data_151 : decode cX9_data 151 = .ok (.iload 10, 2) := by decide +kernel
theorem dX9_data_153 : decode cX9_data 153 = .ok (.iconst 1, 1) := by decide +kernel
theorem dX9_data_154 : decode cX9_data 154 = .ok (.iadd, 1) := by decide +kernel
theorem dX9_data_155 : decode cX9_data 155 = .ok (.iload 4, 2) := by decide +kernel
theorem dX9_data_157 : decode cX9_data 157 = .ok (.if_icmp .ge 36, 3) := by decide +kernel
theorem dX9_data_160 : decode cX9_data 160 = .ok (.iload 9, 2) := by decide +kernel
theorem dX9_data_162 : decode cX9_data 162 = .ok (.aload_n 0, 1) := by decide +kernel
theorem dX9_data_163 : decode cX9_data 163 = .ok (.getfield 101, 3) := by decide +kernel
theorem dX9_data_166 : decode cX9_data 166 = .ok (.sipush 240, 3) := by decide +kernel
theorem dX9_data_169 : decode cX9_data 169 = .ok (.iload 6, 2) := by decide +kernel
theorem dX9_data_171 : decode cX9_data 171 = .ok (.imul, 1) := by decide +kernel
theorem dX9_data_172 : decode cX9_data 172 = .ok (.iload 10, 2) := by decide +kernel
theorem dX9_data_174 : decode cX9_data 174 = .ok (.iadd, 1) := by decide +kernel
theorem dX9_data_175 : decode cX9_data 175 = .ok (.baload, 1) := by decide +kernel
theorem dX9_data_176 : decode cX9_data 176 = .ok (.ifCond .eq 7, 3) := by decide +kernel
theorem dX9_data_179 : decode cX9_data 179 = .ok (.iconst 1, 1) := by decide +kernel
theorem dX9_data_180 : decode cX9_data 180 = .ok (.goto 4, 3) := by decide +kernel
theorem dX9_data_183 : decode cX9_data 183 = .ok (.iconst 0, 1) := by decide +kernel
theorem dX9_data_184 : decode cX9_data 184 = .ok (.iadd, 1) := by decide +kernel
theorem dX9_data_185 : decode cX9_data 185 = .ok (.istore 9, 2) := by decide +kernel
theorem dX9_data_187 : decode cX9_data 187 = .ok (.iinc 10 1, 3) := by decide +kernel
theorem dX9_data_190 : decode cX9_data 190 = .ok (.goto (-39), 3) := by decide +kernel
theorem dX9_data_193 : decode cX9_data 193 = .ok (.iconst 0, 1) := by decide +kernel
theorem dX9_data_194 : decode cX9_data 194 = .ok (.istore 10, 2) := by decide +kernel
theorem dX9_data_196 : decode cX9_data 196 = .ok (.aload_n 0, 1) := by decide +kernel
theorem dX9_data_197 : decode cX9_data 197 = .ok (.getfield 207, 3) := by decide +kernel
theorem dX9_data_200 : decode cX9_data 200 = .ok (.iload 10, 2) := by decide +kernel
theorem dX9_data_202 : decode cX9_data 202 = .ok (.iinc 10 1, 3) := by decide +kernel
theorem dX9_data_205 : decode cX9_data 205 = .ok (.sipush 128, 3) := by decide +kernel
theorem dX9_data_208 : decode cX9_data 208 = .ok (.iload 5, 2) := by decide +kernel
theorem dX9_data_210 : decode cX9_data 210 = .ok (.ifCond .eq 8, 3) := by decide +kernel
theorem dX9_data_213 : decode cX9_data 213 = .ok (.bipush 64, 2) := by decide +kernel
theorem dX9_data_215 : decode cX9_data 215 = .ok (.goto 4, 3) := by decide +kernel
theorem dX9_data_218 : decode cX9_data 218 = .ok (.iconst 0, 1) := by decide +kernel
theorem dX9_data_219 : decode cX9_data 219 = .ok (.iadd, 1) := by decide +kernel
theorem dX9_data_220 : decode cX9_data 220 = .ok (.iload 8, 2) := by decide +kernel
theorem dX9_data_222 : decode cX9_data 222 = .ok (.ifCond .eq 8, 3) := by decide +kernel
theorem dX9_data_225 : decode cX9_data 225 = .ok (.bipush 32, 2) := by decide +kernel
theorem dX9_data_227 : decode cX9_data 227 = .ok (.goto 4, 3) := by decide +kernel
theorem dX9_data_230 : decode cX9_data 230 = .ok (.iconst 0, 1) := by decide +kernel
theorem dX9_data_231 : decode cX9_data 231 = .ok (.iadd, 1) := by decide +kernel
theorem dX9_data_232 : decode cX9_data 232 = .ok (.aload_n 0, 1) := by decide +kernel
theorem dX9_data_233 : decode cX9_data 233 = .ok (.getfield 98, 3) := by decide +kernel
theorem dX9_data_236 : decode cX9_data 236 = .ok (.sipush 240, 3) := by decide +kernel
theorem dX9_data_239 : decode cX9_data 239 = .ok (.iload 6, 2) := by decide +kernel
theorem dX9_data_241 : decode cX9_data 241 = .ok (.imul, 1) := by decide +kernel
theorem dX9_data_242 : decode cX9_data 242 = .ok (.iload_n 3, 1) := by decide +kernel
theorem dX9_data_243 : decode cX9_data 243 = .ok (.iadd, 1) := by decide +kernel
theorem dX9_data_244 : decode cX9_data 244 = .ok (.baload, 1) := by decide +kernel
theorem dX9_data_245 : decode cX9_data 245 = .ok (.ifCond .eq 7, 3) := by decide +kernel
theorem dX9_data_248 : decode cX9_data 248 = .ok (.iconst 0, 1) := by decide +kernel
theorem dX9_data_249 : decode cX9_data 249 = .ok (.goto 5, 3) := by decide +kernel
theorem dX9_data_252 : decode cX9_data 252 = .ok (.bipush 16, 2) := by decide +kernel
theorem dX9_data_254 : decode cX9_data 254 = .ok (.iadd, 1) := by decide +kernel
theorem dX9_data_255 : decode cX9_data 255 = .ok (.aload_n 0, 1) := by decide +kernel
theorem dX9_data_256 : decode cX9_data 256 = .ok (.getfield 101, 3) := by decide +kernel
theorem dX9_data_259 : decode cX9_data 259 = .ok (.sipush 240, 3) := by decide +kernel
theorem dX9_data_262 : decode cX9_data 262 = .ok (.iload 6, 2) := by decide +kernel
theorem dX9_data_264 : decode cX9_data 264 = .ok (.imul, 1) := by decide +kernel
theorem dX9_data_265 : decode cX9_data 265 = .ok (.iload 4, 2) := by decide +kernel
theorem dX9_data_267 : decode cX9_data 267 = .ok (.iadd, 1) := by decide +kernel
theorem dX9_data_268 : decode cX9_data 268 = .ok (.iconst 1, 1) := by decide +kernel
theorem dX9_data_269 : decode cX9_data 269 = .ok (.isub, 1) := by decide +kernel
theorem dX9_data_270 : decode cX9_data 270 = .ok (.baload, 1) := by decide +kernel
theorem dX9_data_271 : decode cX9_data 271 = .ok (.ifCond .eq 7, 3) := by decide +kernel
theorem dX9_data_274 : decode cX9_data 274 = .ok (.iconst 0, 1) := by decide +kernel
theorem dX9_data_275 : decode cX9_data 275 = .ok (.goto 5, 3) := by decide +kernel
theorem dX9_data_278 : decode cX9_data 278 = .ok (.bipush 8, 2) := by decide +kernel
theorem dX9_data_280 : decode cX9_data 280 = .ok (.iadd, 1) := by decide +kernel
theorem dX9_data_281 : decode cX9_data 281 = .ok (.iload 9, 2) := by decide +kernel
theorem dX9_data_283 : decode cX9_data 283 = .ok (.ifCond .le 7, 3) := by decide +kernel
theorem dX9_data_286 : decode cX9_data 286 = .ok (.iconst 4, 1) := by decide +kernel
theorem dX9_data_287 : decode cX9_data 287 = .ok (.goto 4, 3) := by decide +kernel
theorem dX9_data_290 : decode cX9_data 290 = .ok (.iconst 0, 1) := by decide +kernel
theorem dX9_data_291 : decode cX9_data 291 = .ok (.iadd, 1) := by decide +kernel
theorem dX9_data_292 : decode cX9_data 292 = .ok (.iastore, 1) := by decide +kernel
theorem dX9_data_293 : decode cX9_data 293 = .ok (.aload_n 0, 1) := by decide +kernel
theorem dX9_data_294 : decode cX9_data 294 = .ok (.getfield 207, 3) := by decide +kernel
theorem dX9_data_297 : decode cX9_data 297 = .ok (.iload 10, 2) := by decide +kernel
theorem dX9_data_299 : decode cX9_data 299 = .ok (.iinc 10 1, 3) := by decide +kernel
theorem dX9_data_302 : decode cX9_data 302 = .ok (.iload_n 2, 1) := by decide +kernel
theorem dX9_data_303 : decode cX9_data 303 = .ok (.bipush 63, 2) := by decide +kernel
theorem dX9_data_305 : decode cX9_data 305 = .ok (.iand, 1) := by decide +kernel
theorem dX9_data_306 : decode cX9_data 306 = .ok (.iload 5, 2) := by decide +kernel
theorem dX9_data_308 : decode cX9_data 308 = .ok (.ifCond .eq 21, 3) := by decide +kernel
theorem dX9_data_311 : decode cX9_data 311 = .ok (.iload 4, 2) := by decide +kernel
theorem dX9_data_313 : decode cX9_data 313 = .ok (.aload_n 0, 1) := by decide +kernel
theorem dX9_data_314 : decode cX9_data 314 = .ok (.getfield 83, 3) := by decide +kernel
theorem dX9_data_317 : decode cX9_data 317 = .ok (.iload 6, 2) := by decide +kernel
theorem dX9_data_319 : decode cX9_data 319 = .ok (.iaload, 1) := by decide +kernel
theorem dX9_data_320 : decode cX9_data 320 = .ok (.if_icmp .ne 9, 3) := by decide +kernel
theorem dX9_data_323 : decode cX9_data 323 = .ok (.sipush 128, 3) := by decide +kernel
theorem dX9_data_326 : decode cX9_data 326 = .ok (.goto 4, 3) := by decide +kernel
theorem dX9_data_329 : decode cX9_data 329 = .ok (.iconst 0, 1) := by decide +kernel
theorem dX9_data_330 : decode cX9_data 330 = .ok (.iadd, 1) := by decide +kernel
theorem dX9_data_331 : decode cX9_data 331 = .ok (.iastore, 1) := by decide +kernel
theorem dX9_data_332 : decode cX9_data 332 = .ok (.iload 5, 2) := by decide +kernel
theorem dX9_data_334 : decode cX9_data 334 = .ok (.ifCond .eq 14, 3) := by decide +kernel
theorem dX9_data_337 : decode cX9_data 337 = .ok (.aload_n 0, 1) := by decide +kernel
theorem dX9_data_338 : decode cX9_data 338 = .ok (.getfield 207, 3) := by decide +kernel
theorem dX9_data_341 : decode cX9_data 341 = .ok (.iload 10, 2) := by decide +kernel
theorem dX9_data_343 : decode cX9_data 343 = .ok (.iinc 10 1, 3) := by decide +kernel
theorem dX9_data_346 : decode cX9_data 346 = .ok (.iload_n 3, 1) := by decide +kernel
theorem dX9_data_347 : decode cX9_data 347 = .ok (.iastore, 1) := by decide +kernel
theorem dX9_data_348 : decode cX9_data 348 = .ok (.iload_n 3, 1) := by decide +kernel
theorem dX9_data_349 : decode cX9_data 349 = .ok (.istore 11, 2) := by decide +kernel
theorem dX9_data_351 : decode cX9_data 351 = .ok (.iload_n 3, 1) := by decide +kernel
theorem dX9_data_352 : decode cX9_data 352 = .ok (.istore 12, 2) := by decide +kernel
theorem dX9_data_354 : decode cX9_data 354 = .ok (.iload 12, 2) := by decide +kernel
theorem dX9_data_356 : decode cX9_data 356 = .ok (.iconst 1, 1) := by decide +kernel
theorem dX9_data_357 : decode cX9_data 357 = .ok (.iadd, 1) := by decide +kernel
theorem dX9_data_358 : decode cX9_data 358 = .ok (.iload 4, 2) := by decide +kernel
theorem dX9_data_360 : decode cX9_data 360 = .ok (.if_icmp .ge 68, 3) := by decide +kernel
theorem dX9_data_363 : decode cX9_data 363 = .ok (.aload_n 0, 1) := by decide +kernel
theorem dX9_data_364 : decode cX9_data 364 = .ok (.getfield 101, 3) := by decide +kernel
theorem dX9_data_367 : decode cX9_data 367 = .ok (.sipush 240, 3) := by decide +kernel
theorem dX9_data_370 : decode cX9_data 370 = .ok (.iload 6, 2) := by decide +kernel
theorem dX9_data_372 : decode cX9_data 372 = .ok (.imul, 1) := by decide +kernel
theorem dX9_data_373 : decode cX9_data 373 = .ok (.iload 12, 2) := by decide +kernel
theorem dX9_data_375 : decode cX9_data 375 = .ok (.iadd, 1) := by decide +kernel
theorem dX9_data_376 : decode cX9_data 376 = .ok (.baload, 1) := by decide +kernel
theorem dX9_data_377 : decode cX9_data 377 = .ok (.ifCond .ne 6, 3) := by decide +kernel
theorem dX9_data_380 : decode cX9_data 380 = .ok (.goto 42, 3) := by decide +kernel
theorem dX9_data_383 : decode cX9_data 383 = .ok (.iinc 9 (-1), 3) := by decide +kernel
theorem dX9_data_386 : decode cX9_data 386 = .ok (.aload_n 0, 1) := by decide +kernel
theorem dX9_data_387 : decode cX9_data 387 = .ok (.getfield 207, 3) := by decide +kernel
theorem dX9_data_390 : decode cX9_data 390 = .ok (.iload 10, 2) := by decide +kernel
theorem dX9_data_392 : decode cX9_data 392 = .ok (.iinc 10 1, 3) := by decide +kernel
theorem dX9_data_395 : decode cX9_data 395 = .ok (.iload 12, 2) := by decide +kernel
theorem dX9_data_397 : decode cX9_data 397 = .ok (.iconst 1, 1) := by decide +kernel
theorem dX9_data_398 : decode cX9_data 398 = .ok (.iadd, 1) := by decide +kernel
theorem dX9_data_399 : decode cX9_data 399 = .ok (.iload 11, 2) := by decide +kernel
theorem dX9_data_401 : decode cX9_data 401 = .ok (.isub, 1) := by decide +kernel
theorem dX9_data_402 : decode cX9_data 402 = .ok (.iload 9, 2) := by decide +kernel
theorem dX9_data_404 : decode cX9_data 404 = .ok (.ifCond .le 9, 3) := by decide +kernel
theorem dX9_data_407 : decode cX9_data 407 = .ok (.sipush 128, 3) := by decide +kernel
theorem dX9_data_410 : decode cX9_data 410 = .ok (.goto 4, 3) := by decide +kernel
theorem dX9_data_413 : decode cX9_data 413 = .ok (.iconst 0, 1) := by decide +kernel
theorem dX9_data_414 : decode cX9_data 414 = .ok (.iadd, 1) := by decide +kernel
theorem dX9_data_415 : decode cX9_data 415 = .ok (.iastore, 1) := by decide +kernel
theorem dX9_data_416 : decode cX9_data 416 = .ok (.iload 12, 2) := by decide +kernel
theorem dX9_data_418 : decode cX9_data 418 = .ok (.iconst 1, 1) := by decide +kernel
theorem dX9_data_419 : decode cX9_data 419 = .ok (.iadd, 1) := by decide +kernel
theorem dX9_data_420 : decode cX9_data 420 = .ok (.istore 11, 2) := by decide +kernel
theorem dX9_data_422 : decode cX9_data 422 = .ok (.iinc 12 1, 3) := by decide +kernel
theorem dX9_data_425 : decode cX9_data 425 = .ok (.goto (-71), 3) := by decide +kernel
theorem dX9_data_428 : decode cX9_data 428 = .ok (.iload_n 3, 1) := by decide +kernel
theorem dX9_data_429 : decode cX9_data 429 = .ok (.istore 12, 2) := by decide +kernel
theorem dX9_data_431 : decode cX9_data 431 = .ok (.iload 12, 2) := by decide +kernel
theorem dX9_data_433 : decode cX9_data 433 = .ok (.iload 4, 2) := by decide +kernel
theorem dX9_data_435 : decode cX9_data 435 = .ok (.if_icmp .ge 33, 3) := by decide +kernel
theorem dX9_data_438 : decode cX9_data 438 = .ok (.aload_n 0, 1) := by decide +kernel
theorem dX9_data_439 : decode cX9_data 439 = .ok (.getfield 207, 3) := by decide +kernel
theorem dX9_data_442 : decode cX9_data 442 = .ok (.iload 10, 2) := by decide +kernel
theorem dX9_data_444 : decode cX9_data 444 = .ok (.iinc 10 1, 3) := by decide +kernel
theorem dX9_data_447 : decode cX9_data 447 = .ok (.aload_n 0, 1) := by decide +kernel
theorem dX9_data_448 : decode cX9_data 448 = .ok (.getfield 89, 3) := by decide +kernel
theorem dX9_data_451 : decode cX9_data 451 = .ok (.sipush 240, 3) := by decide +kernel
theorem dX9_data_454 : decode cX9_data 454 = .ok (.iload 6, 2) := by decide +kernel
theorem dX9_data_456 : decode cX9_data 456 = .ok (.imul, 1) := by decide +kernel
theorem dX9_data_457 : decode cX9_data 457 = .ok (.iload 12, 2) := by decide +kernel
theorem dX9_data_459 : decode cX9_data 459 = .ok (.iadd, 1) := by decide +kernel
theorem dX9_data_460 : decode cX9_data 460 = .ok (.iaload, 1) := by decide +kernel
theorem dX9_data_461 : decode cX9_data 461 = .ok (.iastore, 1) := by decide +kernel
theorem dX9_data_462 : decode cX9_data 462 = .ok (.iinc 12 1, 3) := by decide +kernel
theorem dX9_data_465 : decode cX9_data 465 = .ok (.goto (-34), 3) := by decide +kernel
theorem dX9_data_468 : decode cX9_data 468 = .ok (.iload 10, 2) := by decide +kernel
theorem dX9_data_470 : decode cX9_data 470 = .ok (.ireturn, 1) := by decide +kernel
theorem dX9_entries_0 : decode cX9_entries 0 = .ok (.bipush 32, 2) := by decide +kernel
theorem dX9_entries_2 : decode cX9_entries 2 = .ok (.iload_n 1, 1) := by decide +kernel
theorem dX9_entries_3 : decode cX9_entries 3 = .ok (.imul, 1) := by decide +kernel
theorem dX9_entries_4 : decode cX9_entries 4 = .ok (.iload_n 2, 1) := by decide +kernel
theorem dX9_entries_5 : decode cX9_entries 5 = .ok (.bipush 31, 2) := by decide +kernel
theorem dX9_entries_7 : decode cX9_entries 7 = .ok (.iand, 1) := by decide +kernel
theorem dX9_entries_8 : decode cX9_entries 8 = .ok (.iadd, 1) := by decide +kernel
theorem dX9_entries_9 : decode cX9_entries 9 = .ok (.istore 5, 2) := by decide +kernel
theorem dX9_entries_11 : decode cX9_entries 11 = .ok (.iconst 0, 1) := by decide +kernel
theorem dX9_entries_12 : decode cX9_entries 12 = .ok (.istore 6, 2) := by decide +kernel
theorem dX9_entries_14 : decode cX9_entries 14 = .ok (.iconst (-1), 1) := by decide +kernel
theorem dX9_entries_15 : decode cX9_entries 15 = .ok (.istore 7, 2) := by decide +kernel
theorem dX9_entries_17 : decode cX9_entries 17 = .ok (.iconst 0, 1) := by decide +kernel
theorem dX9_entries_18 : decode cX9_entries 18 = .ok (.istore 8, 2) := by decide +kernel
theorem dX9_entries_20 : decode cX9_entries 20 = .ok (.iload 8, 2) := by decide +kernel
theorem dX9_entries_22 : decode cX9_entries 22 = .ok (.sipush 240, 3) := by decide +kernel
theorem dX9_entries_25 : decode cX9_entries 25 = .ok (.if_icmp .ge 36, 3) := by decide +kernel
theorem dX9_entries_28 : decode cX9_entries 28 = .ok (.aload_n 0, 1) := by decide +kernel
theorem dX9_entries_29 : decode cX9_entries 29 = .ok (.getfield 147, 3) := by decide +kernel
theorem dX9_entries_32 : decode cX9_entries 32 = .ok (.sipush 240, 3) := by decide +kernel
theorem dX9_entries_35 : decode cX9_entries 35 = .ok (.iload 5, 2) := by decide +kernel
theorem dX9_entries_37 : decode cX9_entries 37 = .ok (.imul, 1) := by decide +kernel
theorem dX9_entries_38 : decode cX9_entries 38 = .ok (.iload 8, 2) := by decide +kernel
theorem dX9_entries_40 : decode cX9_entries 40 = .ok (.iadd, 1) := by decide +kernel
theorem dX9_entries_41 : decode cX9_entries 41 = .ok (.baload, 1) := by decide +kernel
theorem dX9_entries_42 : decode cX9_entries 42 = .ok (.ifCond .ne 6, 3) := by decide +kernel
theorem dX9_entries_45 : decode cX9_entries 45 = .ok (.goto 10, 3) := by decide +kernel
theorem dX9_entries_48 : decode cX9_entries 48 = .ok (.iinc 6 1, 3) := by decide +kernel
theorem dX9_entries_51 : decode cX9_entries 51 = .ok (.iload 8, 2) := by decide +kernel
theorem dX9_entries_53 : decode cX9_entries 53 = .ok (.istore 7, 2) := by decide +kernel
theorem dX9_entries_55 : decode cX9_entries 55 = .ok (.iinc 8 1, 3) := by decide +kernel
theorem dX9_entries_58 : decode cX9_entries 58 = .ok (.goto (-38), 3) := by decide +kernel
theorem dX9_entries_61 : decode cX9_entries 61 = .ok (.iload 6, 2) := by decide +kernel
theorem dX9_entries_63 : decode cX9_entries 63 = .ok (.ifCond .ne 20, 3) := by decide +kernel
theorem dX9_entries_66 : decode cX9_entries 66 = .ok (.iload 4, 2) := by decide +kernel
theorem dX9_entries_68 : decode cX9_entries 68 = .ok (.ifCond .eq 13, 3) := by decide +kernel
theorem dX9_entries_71 : decode cX9_entries 71 = .ok (.aload_n 0, 1) := by decide +kernel
theorem dX9_entries_72 : decode cX9_entries 72 = .ok (.getfield 207, 3) := by decide +kernel
theorem dX9_entries_75 : decode cX9_entries 75 = .ok (.iload_n 3, 1) := by decide +kernel
theorem dX9_entries_76 : decode cX9_entries 76 = .ok (.iload_n 2, 1) := by decide +kernel
theorem dX9_entries_77 : decode cX9_entries 77 = .ok (.bipush 63, 2) := by decide +kernel
theorem dX9_entries_79 : decode cX9_entries 79 = .ok (.iand, 1) := by decide +kernel
theorem dX9_entries_80 : decode cX9_entries 80 = .ok (.iastore, 1) := by decide +kernel
theorem dX9_entries_81 : decode cX9_entries 81 = .ok (.iconst 1, 1) := by decide +kernel
theorem dX9_entries_82 : decode cX9_entries 82 = .ok (.ireturn, 1) := by decide +kernel
theorem dX9_entries_83 : decode cX9_entries 83 = .ok (.aload_n 0, 1) := by decide +kernel
theorem dX9_entries_84 : decode cX9_entries 84 = .ok (.getfield 140, 3) := by decide +kernel
theorem dX9_entries_87 : decode cX9_entries 87 = .ok (.iload 5, 2) := by decide +kernel
theorem dX9_entries_89 : decode cX9_entries 89 = .ok (.iaload, 1) := by decide +kernel
theorem dX9_entries_90 : decode cX9_entries 90 = .ok (.iconst (-1), 1) := by decide +kernel
theorem dX9_entries_91 : decode cX9_entries 91 = .ok (.if_icmp .ne 10, 3) := by decide +kernel
theorem dX9_entries_94 : decode cX9_entries 94 = .ok (.iload 7, 2) := by decide +kernel
theorem dX9_entries_96 : decode cX9_entries 96 = .ok (.iconst 1, 1) := by decide +kernel
theorem dX9_entries_97 : decode cX9_entries 97 = .ok (.iadd, 1) := by decide +kernel
theorem dX9_entries_98 : decode cX9_entries 98 = .ok (.goto 10, 3) := by decide +kernel
theorem dX9_entries_101 : decode cX9_entries 101 = .ok (.aload_n 0, 1) := by decide +kernel
theorem dX9_entries_102 : decode cX9_entries 102 = .ok (.getfield 140, 3) := by decide +kernel
theorem dX9_entries_105 : decode cX9_entries 105 = .ok (.iload 5, 2) := by decide +kernel
theorem dX9_entries_107 : decode cX9_entries 107 = .ok (.iaload, 1) := by decide +kernel
theorem dX9_entries_108 : decode cX9_entries 108 = .ok (.istore 8, 2) := by decide +kernel
theorem dX9_entries_110 : decode cX9_entries 110 = .ok (.iconst 0, 1) := by decide +kernel
theorem dX9_entries_111 : decode cX9_entries 111 = .ok (.istore 9, 2) := by decide +kernel
theorem dX9_entries_113 : decode cX9_entries 113 = .ok (.iconst 0, 1) := by decide +kernel
theorem dX9_entries_114 : decode cX9_entries 114 = .ok (.istore 10, 2) := by decide +kernel
theorem dX9_entries_116 : decode cX9_entries 116 = .ok (.iload 10, 2) := by decide +kernel
theorem dX9_entries_118 : decode cX9_entries 118 = .ok (.iload 8, 2) := by decide +kernel
theorem dX9_entries_120 : decode cX9_entries 120 = .ok (.if_icmp .ge 126, 3) := by decide +kernel
theorem dX9_entries_123 : decode cX9_entries 123 = .ok (.aload_n 0, 1) := by decide +kernel
theorem dX9_entries_124 : decode cX9_entries 124 = .ok (.getfield 147, 3) := by decide +kernel
theorem dX9_entries_127 : decode cX9_entries 127 = .ok (.sipush 240, 3) := by decide +kernel
theorem dX9_entries_130 : decode cX9_entries 130 = .ok (.iload 5, 2) := by decide +kernel
theorem dX9_entries_132 : decode cX9_entries 132 = .ok (.imul, 1) := by decide +kernel
theorem dX9_entries_133 : decode cX9_entries 133 = .ok (.iload 10, 2) := by decide +kernel
theorem dX9_entries_135 : decode cX9_entries 135 = .ok (.iadd, 1) := by decide +kernel
theorem dX9_entries_136 : decode cX9_entries 136 = .ok (.baload, 1) := by decide +kernel
theorem dX9_entries_137 : decode cX9_entries 137 = .ok (.ifCond .ne 31, 3) := by decide +kernel
theorem dX9_entries_140 : decode cX9_entries 140 = .ok (.iload 10, 2) := by decide +kernel
theorem dX9_entries_142 : decode cX9_entries 142 = .ok (.ifCond .eq 22, 3) := by decide +kernel
theorem dX9_entries_145 : decode cX9_entries 145 = .ok (.aload_n 0, 1) := by decide +kernel
theorem dX9_entries_146 : decode cX9_entries 146 = .ok (.getfield 147, 3) := by decide +kernel
theorem dX9_entries_149 : decode cX9_entries 149 = .ok (.sipush 240, 3) := by decide +kernel
theorem dX9_entries_152 : decode cX9_entries 152 = .ok (.iload 5, 2) := by decide +kernel
theorem dX9_entries_154 : decode cX9_entries 154 = .ok (.imul, 1) := by decide +kernel
theorem dX9_entries_155 : decode cX9_entries 155 = .ok (.iload 10, 2) := by decide +kernel
theorem dX9_entries_157 : decode cX9_entries 157 = .ok (.iadd, 1) := by decide +kernel
theorem dX9_entries_158 : decode cX9_entries 158 = .ok (.iconst 1, 1) := by decide +kernel
