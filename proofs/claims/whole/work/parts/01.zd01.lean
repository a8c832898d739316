theorem dX4_waitAnew_24 : decode cX4_waitAnew 24 = .ok (.invokevirtual 53, 3) := by decide +kernel
theorem dX4_waitAnew_27 : decode cX4_waitAnew 27 = .ok (.aload_n 0, 1) := by decide +kernel
theorem dX4_waitAnew_28 : decode cX4_waitAnew 28 = .ok (.getfield 41, 3) := by decide +kernel
theorem dX4_waitAnew_31 : decode cX4_waitAnew 31 = .ok (.istore_n 2, 1) := by decide +kernel
theorem dX4_waitAnew_32 : decode cX4_waitAnew 32 = .ok (.iload_n 2, 1) := by decide +kernel
theorem dX4_waitAnew_33 : decode cX4_waitAnew 33 = .ok (.aload_n 0, 1) := by decide +kernel
theorem dX4_waitAnew_34 : decode cX4_waitAnew 34 = .ok (.getfield 38, 3) := by decide +kernel
theorem dX4_waitAnew_37 : decode cX4_waitAnew 37 = .ok (.if_icmp .ge 41, 3) := by decide +kernel
theorem dX4_waitAnew_40 : decode cX4_waitAnew 40 = .ok (.aload_n 0, 1) := by decide +kernel
theorem dX4_waitAnew_41 : decode cX4_waitAnew 41 = .ok (.iload_n 2, 1) := by decide +kernel
theorem dX4_waitAnew_42 : decode cX4_waitAnew 42 = .ok (.invokevirtual 88, 3) := by decide +kernel
theorem dX4_waitAnew_45 : decode cX4_waitAnew 45 = .ok (.ifCond .eq 27, 3) := by decide +kernel
theorem dX4_waitAnew_48 : decode cX4_waitAnew 48 = .ok (.iload_n 2, 1) := by decide +kernel
theorem dX4_waitAnew_49 : decode cX4_waitAnew 49 = .ok (.bipush 31, 2) := by decide +kernel
theorem dX4_waitAnew_51 : decode cX4_waitAnew 51 = .ok (.iand, 1) := by decide +kernel
theorem dX4_waitAnew_52 : decode cX4_waitAnew 52 = .ok (.istore_n 3, 1) := by decide +kernel
theorem dX4_waitAnew_53 : decode cX4_waitAnew 53 = .ok (.aload_n 0, 1) := by decide +kernel
theorem dX4_waitAnew_54 : decode cX4_waitAnew 54 = .ok (.getfield 22, 3) := by decide +kernel
theorem dX4_waitAnew_57 : decode cX4_waitAnew 57 = .ok (.iload_n 3, 1) := by decide +kernel
theorem dX4_waitAnew_58 : decode cX4_waitAnew 58 = .ok (.aload_n 0, 1) := by decide +kernel
theorem dX4_waitAnew_59 : decode cX4_waitAnew 59 = .ok (.getfield 15, 3) := by decide +kernel
theorem dX4_waitAnew_62 : decode cX4_waitAnew 62 = .ok (.iload_n 3, 1) := by decide +kernel
theorem dX4_waitAnew_63 : decode cX4_waitAnew 63 = .ok (.iaload, 1) := by decide +kernel
theorem dX4_waitAnew_64 : decode cX4_waitAnew 64 = .ok (.iconst 1, 1) := by decide +kernel
theorem dX4_waitAnew_65 : decode cX4_waitAnew 65 = .ok (.iadd, 1) := by decide +kernel
theorem dX4_waitAnew_66 : decode cX4_waitAnew 66 = .ok (.iastore, 1) := by decide +kernel
theorem dX4_waitAnew_67 : decode cX4_waitAnew 67 = .ok (.aload_n 0, 1) := by decide +kernel
theorem dX4_waitAnew_68 : decode cX4_waitAnew 68 = .ok (.iload_n 2, 1) := by decide +kernel
theorem dX4_waitAnew_69 : decode cX4_waitAnew 69 = .ok (.invokevirtual 53, 3) := by decide +kernel
theorem dX4_waitAnew_72 : decode cX4_waitAnew 72 = .ok (.iinc 2 1, 3) := by decide +kernel
theorem dX4_waitAnew_75 : decode cX4_waitAnew 75 = .ok (.goto (-43), 3) := by decide +kernel
theorem dX4_waitAnew_78 : decode cX4_waitAnew 78 = .ok (.return_, 1) := by decide +kernel
theorem dX5_init_0 : decode cX5_init 0 = .ok (.aload_n 0, 1) := by decide +kernel
theorem dX5_init_1 : decode cX5_init 1 = .ok (.invokespecial 3, 3) := by decide +kernel
theorem dX5_init_4 : decode cX5_init 4 = .ok (.aload_n 0, 1) := by decide +kernel
theorem dX5_init_5 : decode cX5_init 5 = .ok (.sipush 240, 3) := by decide +kernel
theorem dX5_init_8 : decode cX5_init 8 = .ok (.newarray .int, 2) := by decide +kernel
theorem dX5_init_10 : decode cX5_init 10 = .ok (.putfield 9, 3) := by decide +kernel
theorem dX5_init_13 : decode cX5_init 13 = .ok (.return_, 1) := by decide +kernel
theorem dX5_clear_0 : decode cX5_clear 0 = .ok (.aload_n 0, 1) := by decide +kernel
theorem dX5_clear_1 : decode cX5_clear 1 = .ok (.getfield 9, 3) := by decide +kernel
theorem dX5_clear_4 : decode cX5_clear 4 = .ok (.iconst 0, 1) := by decide +kernel
theorem dX5_clear_5 : decode cX5_clear 5 = .ok (.invokestatic 15, 3) := by decide +kernel
theorem dX5_clear_8 : decode cX5_clear 8 = .ok (.aload_n 0, 1) := by decide +kernel
theorem dX5_clear_9 : decode cX5_clear 9 = .ok (.iload_n 1, 1) := by decide +kernel
theorem dX5_clear_10 : decode cX5_clear 10 = .ok (.putfield 21, 3) := by decide +kernel
theorem dX5_clear_13 : decode cX5_clear 13 = .ok (.aload_n 0, 1) := by decide +kernel
theorem dX5_clear_14 : decode cX5_clear 14 = .ok (.iconst 0, 1) := by decide +kernel
theorem dX5_clear_15 : decode cX5_clear 15 = .ok (.putfield 25, 3) := by decide +kernel
theorem dX5_clear_18 : decode cX5_clear 18 = .ok (.aload_n 0, 1) := by decide +kernel
theorem dX5_clear_19 : decode cX5_clear 19 = .ok (.iconst 0, 1) := by decide +kernel
theorem dX5_clear_20 : decode cX5_clear 20 = .ok (.putfield 28, 3) := by decide +kernel
theorem dX5_clear_23 : decode cX5_clear 23 = .ok (.aload_n 0, 1) := by decide +kernel
theorem dX5_clear_24 : decode cX5_clear 24 = .ok (.iconst 0, 1) := by decide +kernel
theorem dX5_clear_25 : decode cX5_clear 25 = .ok (.putfield 31, 3) := by decide +kernel
theorem dX5_clear_28 : decode cX5_clear 28 = .ok (.aload_n 0, 1) := by decide +kernel
theorem dX5_clear_29 : decode cX5_clear 29 = .ok (.iconst 0, 1) := by decide +kernel
theorem dX5_clear_30 : decode cX5_clear 30 = .ok (.putfield 35, 3) := by decide +kernel
theorem dX5_clear_33 : decode cX5_clear 33 = .ok (.return_, 1) := by decide +kernel
theorem dX5_cell_0 : decode cX5_cell 0 = .ok (.iload_n 1, 1) := by decide +kernel
theorem dX5_cell_1 : decode cX5_cell 1 = .ok (.ifCond .lt 21, 3) := by decide +kernel
theorem dX5_cell_4 : decode cX5_cell 4 = .ok (.iload_n 1, 1) := by decide +kernel
theorem dX5_cell_5 : decode cX5_cell 5 = .ok (.aload_n 0, 1) := by decide +kernel
theorem dX5_cell_6 : decode cX5_cell 6 = .ok (.getfield 9, 3) := by decide +kernel
theorem dX5_cell_9 : decode cX5_cell 9 = .ok (.arraylength, 1) := by decide +kernel
theorem dX5_cell_10 : decode cX5_cell 10 = .ok (.if_icmp .ge 12, 3) := by decide +kernel
theorem dX5_cell_13 : decode cX5_cell 13 = .ok (.aload_n 0, 1) := by decide +kernel
theorem dX5_cell_14 : decode cX5_cell 14 = .ok (.getfield 9, 3) := by decide +kernel
theorem dX5_cell_17 : decode cX5_cell 17 = .ok (.iload_n 1, 1) := by decide +kernel
theorem dX5_cell_18 : decode cX5_cell 18 = .ok (.iaload, 1) := by decide +kernel
theorem dX5_cell_19 : decode cX5_cell 19 = .ok (.goto 4, 3) := by decide +kernel
theorem dX5_cell_22 : decode cX5_cell 22 = .ok (.iconst 0, 1) := by decide +kernel
theorem dX5_cell_23 : decode cX5_cell 23 = .ok (.ireturn, 1) := by decide +kernel
theorem dX5_has_0 : decode cX5_has 0 = .ok (.iload_n 1, 1) := by decide +kernel
theorem dX5_has_1 : decode cX5_has 1 = .ok (.ifCond .lt 27, 3) := by decide +kernel
theorem dX5_has_4 : decode cX5_has 4 = .ok (.iload_n 1, 1) := by decide +kernel
theorem dX5_has_5 : decode cX5_has 5 = .ok (.aload_n 0, 1) := by decide +kernel
theorem dX5_has_6 : decode cX5_has 6 = .ok (.getfield 9, 3) := by decide +kernel
theorem dX5_has_9 : decode cX5_has 9 = .ok (.arraylength, 1) := by decide +kernel
theorem dX5_has_10 : decode cX5_has 10 = .ok (.if_icmp .ge 18, 3) := by decide +kernel
theorem dX5_has_13 : decode cX5_has 13 = .ok (.aload_n 0, 1) := by decide +kernel
theorem dX5_has_14 : decode cX5_has 14 = .ok (.getfield 9, 3) := by decide +kernel
theorem dX5_has_17 : decode cX5_has 17 = .ok (.iload_n 1, 1) := by decide +kernel
theorem dX5_has_18 : decode cX5_has 18 = .ok (.iaload, 1) := by decide +kernel
theorem dX5_has_19 : decode cX5_has 19 = .ok (.iload_n 2, 1) := by decide +kernel
theorem dX5_has_20 : decode cX5_has 20 = .ok (.iand, 1) := by decide +kernel
theorem dX5_has_21 : decode cX5_has 21 = .ok (.ifCond .eq 7, 3) := by decide +kernel
theorem dX5_has_24 : decode cX5_has 24 = .ok (.iconst 1, 1) := by decide +kernel
theorem dX5_has_25 : decode cX5_has 25 = .ok (.goto 4, 3) := by decide +kernel
theorem dX5_has_28 : decode cX5_has 28 = .ok (.iconst 0, 1) := by decide +kernel
theorem dX5_has_29 : decode cX5_has 29 = .ok (.ireturn, 1) := by decide +kernel
theorem dX5_append_0 : decode cX5_append 0 = .ok (.aload_n 0, 1) := by decide +kernel
theorem dX5_append_1 : decode cX5_append 1 = .ok (.getfield 21, 3) := by decide +kernel
theorem dX5_append_4 : decode cX5_append 4 = .ok (.ifCond .lt 32, 3) := by decide +kernel
theorem dX5_append_7 : decode cX5_append 7 = .ok (.aload_n 0, 1) := by decide +kernel
theorem dX5_append_8 : decode cX5_append 8 = .ok (.getfield 21, 3) := by decide +kernel
theorem dX5_append_11 : decode cX5_append 11 = .ok (.aload_n 0, 1) := by decide +kernel
theorem dX5_append_12 : decode cX5_append 12 = .ok (.getfield 9, 3) := by decide +kernel
theorem dX5_append_15 : decode cX5_append 15 = .ok (.arraylength, 1) := by decide +kernel
theorem dX5_append_16 : decode cX5_append 16 = .ok (.if_icmp .ge 20, 3) := by decide +kernel
theorem dX5_append_19 : decode cX5_append 19 = .ok (.aload_n 0, 1) := by decide +kernel
theorem dX5_append_20 : decode cX5_append 20 = .ok (.getfield 9, 3) := by decide +kernel
theorem dX5_append_23 : decode cX5_append 23 = .ok (.aload_n 0, 1) := by decide +kernel
theorem dX5_append_24 : decode cX5_append 24 = .ok (.dup, 1) := by decide +kernel
theorem dX5_append_25 : decode cX5_append 25 = .ok (.getfield 21, 3) := by decide +kernel
theorem dX5_append_28 : decode cX5_append 28 = .ok (.dup_x1, 1) := by decide +kernel
theorem dX5_append_29 : decode cX5_append 29 = .ok (.iconst 1, 1) := by decide +kernel
theorem dX5_append_30 : decode cX5_append 30 = .ok (.iadd, 1) := by decide +kernel
theorem dX5_append_31 : decode cX5_append 31 = .ok (.putfield 21, 3) := by decide +kernel
theorem dX5_append_34 : decode cX5_append 34 = .ok (.iload_n 1, 1) := by decide +kernel
theorem dX5_append_35 : decode cX5_append 35 = .ok (.iastore, 1) := by decide +kernel
theorem dX5_append_36 : decode cX5_append 36 = .ok (.return_, 1) := by decide +kernel
theorem dX5_markCell_0 : decode cX5_markCell 0 = .ok (.iload_n 1, 1) := by decide +kernel
theorem dX5_markCell_1 : decode cX5_markCell 1 = .ok (.ifCond .lt 47, 3) := by decide +kernel
theorem dX5_markCell_4 : decode cX5_markCell 4 = .ok (.iload_n 1, 1) := by decide +kernel
theorem dX5_markCell_5 : decode cX5_markCell 5 = .ok (.aload_n 0, 1) := by decide +kernel
theorem dX5_markCell_6 : decode cX5_markCell 6 = .ok (.getfield 9, 3) := by decide +kernel
theorem dX5_markCell_9 : decode cX5_markCell 9 = .ok (.arraylength, 1) := by decide +kernel
theorem dX5_markCell_10 : decode cX5_markCell 10 = .ok (.if_icmp .ge 38, 3) := by decide +kernel
theorem dX5_markCell_13 : decode cX5_markCell 13 = .ok (.aload_n 0, 1) := by decide +kernel
theorem dX5_markCell_14 : decode cX5_markCell 14 = .ok (.getfield 9, 3) := by decide +kernel
theorem dX5_markCell_17 : decode cX5_markCell 17 = .ok (.iload_n 1, 1) := by decide +kernel
theorem dX5_markCell_18 : decode cX5_markCell 18 = .ok (.iaload, 1) := by decide +kernel
theorem dX5_markCell_19 : decode cX5_markCell 19 = .ok (.sipush 1024, 3) := by decide +kernel
theorem dX5_markCell_22 : decode cX5_markCell 22 = .ok (.iand, 1) := by decide +kernel
theorem dX5_markCell_23 : decode cX5_markCell 23 = .ok (.ifCond .ne 25, 3) := by decide +kernel
theorem dX5_markCell_26 : decode cX5_markCell 26 = .ok (.aload_n 0, 1) := by decide +kernel
theorem dX5_markCell_27 : decode cX5_markCell 27 = .ok (.getfield 9, 3) := by decide +kernel
theorem dX5_markCell_30 : decode cX5_markCell 30 = .ok (.iload_n 1, 1) := by decide +kernel
theorem dX5_markCell_31 : decode cX5_markCell 31 = .ok (.dup2, 1) := by decide +kernel
theorem dX5_markCell_32 : decode cX5_markCell 32 = .ok (.iaload, 1) := by decide +kernel
theorem dX5_markCell_33 : decode cX5_markCell 33 = .ok (.sipush 1024, 3) := by decide +kernel
theorem dX5_markCell_36 : decode cX5_markCell 36 = .ok (.ior, 1) := by decide +kernel
theorem dX5_markCell_37 : decode cX5_markCell 37 = .ok (.iastore, 1) := by decide +kernel
theorem dX5_markCell_38 : decode cX5_markCell 38 = .ok (.aload_n 0, 1) := by decide +kernel
theorem dX5_markCell_39 : decode cX5_markCell 39 = .ok (.dup, 1) := by decide +kernel
theorem dX5_markCell_40 : decode cX5_markCell 40 = .ok (.getfield 25, 3) := by decide +kernel
theorem dX5_markCell_43 : decode cX5_markCell 43 = .ok (.iconst 1, 1) := by decide +kernel
theorem dX5_markCell_44 : decode cX5_markCell 44 = .ok (.iadd, 1) := by decide +kernel
theorem dX5_markCell_45 : decode cX5_markCell 45 = .ok (.putfield 25, 3) := by decide +kernel
theorem dX5_markCell_48 : decode cX5_markCell 48 = .ok (.return_, 1) := by decide +kernel
theorem dX5_unmarkCell_0 : decode cX5_unmarkCell 0 = .ok (.iload_n 1, 1) := by decide +kernel
theorem dX5_unmarkCell_1 : decode cX5_unmarkCell 1 = .ok (.ifCond .lt 47, 3) := by decide +kernel
theorem dX5_unmarkCell_4 : decode cX5_unmarkCell 4 = .ok (.iload_n 1, 1) := by decide +kernel
theorem dX5_unmarkCell_5 : decode cX5_unmarkCell 5 = .ok (.aload_n 0, 1) := by decide +kernel
theorem dX5_unmarkCell_6 : decode cX5_unmarkCell 6 = .ok (.getfield 9, 3) := by decide +kernel
theorem dX5_unmarkCell_9 : decode cX5_unmarkCell 9 = .ok (.arraylength, 1) := by decide +kernel
theorem dX5_unmarkCell_10 : decode cX5_unmarkCell 10 = .ok (.if_icmp .ge 38, 3) := by decide +kernel
theorem dX5_unmarkCell_13 : decode cX5_unmarkCell 13 = .ok (.aload_n 0, 1) := by decide +kernel
theorem dX5_unmarkCell_14 : decode cX5_unmarkCell 14 = .ok (.getfield 9, 3) := by decide +kernel
theorem dX5_unmarkCell_17 : decode cX5_unmarkCell 17 = .ok (.iload_n 1, 1) := by decide +kernel
theorem dX5_unmarkCell_18 : decode cX5_unmarkCell 18 = .ok (.iaload, 1) := by decide +kernel
theorem dX5_unmarkCell_19 : decode cX5_unmarkCell 19 = .ok (.sipush 1024, 3) := by decide +kernel
theorem dX5_unmarkCell_22 : decode cX5_unmarkCell 22 = .ok (.iand, 1) := by decide +kernel
theorem dX5_unmarkCell_23 : decode cX5_unmarkCell 23 = .ok (.ifCond .eq 25, 3) := by decide +kernel
theorem dX5_unmarkCell_26 : decode cX5_unmarkCell 26 = .ok (.aload_n 0, 1) := by decide +kernel
theorem dX5_unmarkCell_27 : decode cX5_unmarkCell 27 = .ok (.getfield 9, 3) := by decide +kernel
theorem dX5_unmarkCell_30 : decode cX5_unmarkCell 30 = .ok (.iload_n 1, 1) := by decide +kernel
theorem dX5_unmarkCell_31 : decode cX5_unmarkCell 31 = .ok (.dup2, 1) := by decide +kernel
theorem dX5_unmarkCell_32 : decode cX5_unmarkCell 32 = .ok (.iaload, 1) := by decide +kernel
theorem dX5_unmarkCell_33 : decode cX5_unmarkCell 33 = .ok (.sipush (-1025), 3) := by decide +kernel
theorem dX5_unmarkCell_36 : decode cX5_unmarkCell 36 = .ok (.iand, 1) := by decide +kernel
theorem dX5_unmarkCell_37 : decode cX5_unmarkCell 37 = .ok (.iastore, 1) := by decide +kernel
theorem dX5_unmarkCell_38 : decode cX5_unmarkCell 38 = .ok (.aload_n 0, 1) := by decide +kernel
theorem dX5_unmarkCell_39 : decode cX5_unmarkCell 39 = .ok (.dup, 1) := by decide +kernel
theorem dX5_unmarkCell_40 : decode cX5_unmarkCell 40 = .ok (.getfield 25, 3) := by decide +kernel
theorem dX5_unmarkCell_43 : decode cX5_unmarkCell 43 = .ok (.iconst 1, 1) := by decide +kernel
theorem dX5_unmarkCell_44 : decode cX5_unmarkCell 44 = .ok (.isub, 1) := by decide +kernel
theorem dX5_unmarkCell_45 : decode cX5_unmarkCell 45 = .ok (.putfield 25, 3) := by decide +kernel
theorem dX5_unmarkCell_48 : decode cX5_unmarkCell 48 = .ok (.return_, 1) := by decide +kernel
theorem dX5_putArrived_0 : decode cX5_putArrived 0 = .ok (.iload_n 1, 1) := by decide +kernel
theorem dX5_putArrived_1 : decode cX5_putArrived 1 = .ok (.ifCond .lt 46, 3) := by decide +kernel
theorem dX5_putArrived_4 : decode cX5_putArrived 4 = .ok (.iload_n 1, 1) := by decide +kernel
theorem dX5_putArrived_5 : decode cX5_putArrived 5 = .ok (.aload_n 0, 1) := by decide +kernel
theorem dX5_putArrived_6 : decode cX5_putArrived 6 = .ok (.getfield 9, 3) := by decide +kernel
theorem dX5_putArrived_9 : decode cX5_putArrived 9 = .ok (.arraylength, 1) := by decide +kernel
theorem dX5_putArrived_10 : decode cX5_putArrived 10 = .ok (.if_icmp .ge 37, 3) := by decide +kernel
theorem dX5_putArrived_13 : decode cX5_putArrived 13 = .ok (.aload_n 0, 1) := by decide +kernel
theorem dX5_putArrived_14 : decode cX5_putArrived 14 = .ok (.getfield 9, 3) := by decide +kernel
theorem dX5_putArrived_17 : decode cX5_putArrived 17 = .ok (.iload_n 1, 1) := by decide +kernel
theorem dX5_putArrived_18 : decode cX5_putArrived 18 = .ok (.iaload, 1) := by decide +kernel
theorem dX5_putArrived_19 : decode cX5_putArrived 19 = .ok (.sipush 1024, 3) := by decide +kernel
theorem dX5_putArrived_22 : decode cX5_putArrived 22 = .ok (.iand, 1) := by decide +kernel
theorem dX5_putArrived_23 : decode cX5_putArrived 23 = .ok (.ifCond .ne 24, 3) := by decide +kernel
theorem dX5_putArrived_26 : decode cX5_putArrived 26 = .ok (.aload_n 0, 1) := by decide +kernel
theorem dX5_putArrived_27 : decode cX5_putArrived 27 = .ok (.getfield 9, 3) := by decide +kernel
theorem dX5_putArrived_30 : decode cX5_putArrived 30 = .ok (.iload_n 1, 1) := by decide +kernel
theorem dX5_putArrived_31 : decode cX5_putArrived 31 = .ok (.iload_n 2, 1) := by decide +kernel
theorem dX5_putArrived_32 : decode cX5_putArrived 32 = .ok (.sipush 1024, 3) := by decide +kernel
theorem dX5_putArrived_35 : decode cX5_putArrived 35 = .ok (.ior, 1) := by decide +kernel
theorem dX5_putArrived_36 : decode cX5_putArrived 36 = .ok (.iastore, 1) := by decide +kernel
theorem dX5_putArrived_37 : decode cX5_putArrived 37 = .ok (.aload_n 0, 1) := by decide +kernel
theorem dX5_putArrived_38 : decode cX5_putArrived 38 = .ok (.dup, 1) := by decide +kernel
theorem dX5_putArrived_39 : decode cX5_putArrived 39 = .ok (.getfield 25, 3) := by decide +kernel
theorem dX5_putArrived_42 : decode cX5_putArrived 42 = .ok (.iconst 1, 1) := by decide +kernel
theorem dX5_putArrived_43 : decode cX5_putArrived 43 = .ok (.iadd, 1) := by decide +kernel
theorem dX5_putArrived_44 : decode cX5_putArrived 44 = .ok (.putfield 25, 3) := by decide +kernel
theorem dX5_putArrived_47 : decode cX5_putArrived 47 = .ok (.return_, 1) := by decide +kernel
theorem dX5_nextMark_0 : decode cX5_nextMark 0 = .ok (.iload_n 1, 1) := by decide +kernel
theorem dX5_nextMark_1 : decode cX5_nextMark 1 = .ok (.iconst 0, 1) := by decide +kernel
theorem dX5_nextMark_2 : decode cX5_nextMark 2 = .ok (.invokestatic 38, 3) := by decide +kernel
theorem dX5_nextMark_5 : decode cX5_nextMark 5 = .ok (.istore 4, 2) := by decide +kernel
theorem dX5_nextMark_7 : decode cX5_nextMark 7 = .ok (.iload 4, 2) := by decide +kernel
theorem dX5_nextMark_9 : decode cX5_nextMark 9 = .ok (.iload_n 2, 1) := by decide +kernel
theorem dX5_nextMark_10 : decode cX5_nextMark 10 = .ok (.if_icmp .ge 45, 3) := by decide +kernel
theorem dX5_nextMark_13 : decode cX5_nextMark 13 = .ok (.iload 4, 2) := by decide +kernel
theorem dX5_nextMark_15 : decode cX5_nextMark 15 = .ok (.aload_n 0, 1) := by decide +kernel
theorem dX5_nextMark_16 : decode cX5_nextMark 16 = .ok (.getfield 9, 3) := by decide +kernel
theorem dX5_nextMark_19 : decode cX5_nextMark 19 = .ok (.arraylength, 1) := by decide +kernel
theorem dX5_nextMark_20 : decode cX5_nextMark 20 = .ok (.if_icmp .ge 35, 3) := by decide +kernel
theorem dX5_nextMark_23 : decode cX5_nextMark 23 = .ok (.aload_n 0, 1) := by decide +kernel
theorem dX5_nextMark_24 : decode cX5_nextMark 24 = .ok (.getfield 9, 3) := by decide +kernel
theorem dX5_nextMark_27 : decode cX5_nextMark 27 = .ok (.iload 4, 2) := by decide +kernel
theorem dX5_nextMark_29 : decode cX5_nextMark 29 = .ok (.iaload, 1) := by decide +kernel
theorem dX5_nextMark_30 : decode cX5_nextMark 30 = .ok (.sipush 1024, 3) := by decide +kernel
theorem dX5_nextMark_33 : decode cX5_nextMark 33 = .ok (.iand, 1) := by decide +kernel
theorem dX5_nextMark_34 : decode cX5_nextMark 34 = .ok (.ifCond .eq 7, 3) := by decide +kernel
theorem dX5_nextMark_37 : decode cX5_nextMark 37 = .ok (.iconst 1, 1) := by decide +kernel
theorem dX5_nextMark_38 : decode cX5_nextMark 38 = .ok (.goto 4, 3) := by decide +kernel
theorem dX5_nextMark_41 : decode cX5_nextMark 41 = .ok (.iconst 0, 1) := by decide +kernel
theorem dX5_nextMark_42 : decode cX5_nextMark 42 = .ok (.iload_n 3, 1) := by decide +kernel
theorem dX5_nextMark_43 : decode cX5_nextMark 43 = .ok (.if_icmp .ne 6, 3) := by decide +kernel
theorem dX5_nextMark_46 : decode cX5_nextMark 46 = .ok (.iload 4, 2) := by decide +kernel
theorem dX5_nextMark_48 : decode cX5_nextMark 48 = .ok (.ireturn, 1) := by decide +kernel
theorem dX5_nextMark_49 : decode cX5_nextMark 49 = .ok (.iinc 4 1, 3) := by decide +kernel
theorem dX5_nextMark_52 : decode cX5_nextMark 52 = .ok (.goto (-45), 3) := by decide +kernel
theorem dX5_nextMark_55 : decode cX5_nextMark 55 = .ok (.iload_n 2, 1) := by decide +kernel
theorem dX5_nextMark_56 : decode cX5_nextMark 56 = .ok (.ireturn, 1) := by decide +kernel
theorem dX5_innerEnds_0 : decode cX5_innerEnds 0 = .ok (.iconst 0, 1) := by decide +kernel
theorem dX5_innerEnds_1 : decode cX5_innerEnds 1 = .ok (.istore_n 3, 1) := by decide +kernel
theorem dX5_innerEnds_2 : decode cX5_innerEnds 2 = .ok (.iload_n 1, 1) := by decide +kernel
theorem dX5_innerEnds_3 : decode cX5_innerEnds 3 = .ok (.istore 4, 2) := by decide +kernel
theorem dX5_innerEnds_5 : decode cX5_innerEnds 5 = .ok (.iload 4, 2) := by decide +kernel
theorem dX5_innerEnds_7 : decode cX5_innerEnds 7 = .ok (.iload_n 2, 1) := by decide +kernel
theorem dX5_innerEnds_8 : decode cX5_innerEnds 8 = .ok (.iconst 1, 1) := by decide +kernel
theorem dX5_innerEnds_9 : decode cX5_innerEnds 9 = .ok (.isub, 1) := by decide +kernel
theorem dX5_innerEnds_10 : decode cX5_innerEnds 10 = .ok (.if_icmp .ge 24, 3) := by decide +kernel
theorem dX5_innerEnds_13 : decode cX5_innerEnds 13 = .ok (.aload_n 0, 1) := by decide +kernel
theorem dX5_innerEnds_14 : decode cX5_innerEnds 14 = .ok (.iload 4, 2) := by decide +kernel
theorem dX5_innerEnds_16 : decode cX5_innerEnds 16 = .ok (.sipush 512, 3) := by decide +kernel
theorem dX5_innerEnds_19 : decode cX5_innerEnds 19 = .ok (.invokevirtual 44, 3) := by decide +kernel
theorem dX5_innerEnds_22 : decode cX5_innerEnds 22 = .ok (.ifCond .eq 6, 3) := by decide +kernel
theorem dX5_innerEnds_25 : decode cX5_innerEnds 25 = .ok (.iinc 3 1, 3) := by decide +kernel
theorem dX5_innerEnds_28 : decode cX5_innerEnds 28 = .ok (.iinc 4 1, 3) := by decide +kernel
theorem dX5_innerEnds_31 : decode cX5_innerEnds 31 = .ok (.goto (-26), 3) := by decide +kernel
theorem dX5_innerEnds_34 : decode cX5_innerEnds 34 = .ok (.iload_n 3, 1) := by decide +kernel
theorem dX5_innerEnds_35 : decode cX5_innerEnds 35 = .ok (.ireturn, 1) := by decide +kernel
theorem dX5_fitting_0 : decode cX5_fitting 0 = .ok (.iload_n 3, 1) := by decide +kernel
theorem dX5_fitting_1 : decode cX5_fitting 1 = .ok (.istore 4, 2) := by decide +kernel
theorem dX5_fitting_3 : decode cX5_fitting 3 = .ok (.iload_n 1, 1) := by decide +kernel
theorem dX5_fitting_4 : decode cX5_fitting 4 = .ok (.istore 5, 2) := by decide +kernel
theorem dX5_fitting_6 : decode cX5_fitting 6 = .ok (.iload 5, 2) := by decide +kernel
theorem dX5_fitting_8 : decode cX5_fitting 8 = .ok (.iload_n 2, 1) := by decide +kernel
theorem dX5_fitting_9 : decode cX5_fitting 9 = .ok (.if_icmp .ge 47, 3) := by decide +kernel
theorem dX5_fitting_12 : decode cX5_fitting 12 = .ok (.iload 4, 2) := by decide +kernel
theorem dX5_fitting_14 : decode cX5_fitting 14 = .ok (.iload 5, 2) := by decide +kernel
theorem dX5_fitting_16 : decode cX5_fitting 16 = .ok (.iload_n 1, 1) := by decide +kernel
theorem dX5_fitting_17 : decode cX5_fitting 17 = .ok (.if_icmp .le 21, 3) := by decide +kernel
theorem dX5_fitting_20 : decode cX5_fitting 20 = .ok (.aload_n 0, 1) := by decide +kernel
theorem dX5_fitting_21 : decode cX5_fitting 21 = .ok (.iload 5, 2) := by decide +kernel
theorem dX5_fitting_23 : decode cX5_fitting 23 = .ok (.iconst 1, 1) := by decide +kernel
theorem dX5_fitting_24 : decode cX5_fitting 24 = .ok (.isub, 1) := by decide +kernel
theorem dX5_fitting_25 : decode cX5_fitting 25 = .ok (.sipush 512, 3) := by decide +kernel
theorem dX5_fitting_28 : decode cX5_fitting 28 = .ok (.invokevirtual 44, 3) := by decide +kernel
theorem dX5_fitting_31 : decode cX5_fitting 31 = .ok (.ifCond .eq 7, 3) := by decide +kernel
theorem dX5_fitting_34 : decode cX5_fitting 34 = .ok (.iconst 2, 1) := by decide +kernel
theorem dX5_fitting_35 : decode cX5_fitting 35 = .ok (.goto 4, 3) := by decide +kernel
theorem dX5_fitting_38 : decode cX5_fitting 38 = .ok (.iconst 1, 1) := by decide +kernel
theorem dX5_fitting_39 : decode cX5_fitting 39 = .ok (.isub, 1) := by decide +kernel
theorem dX5_fitting_40 : decode cX5_fitting 40 = .ok (.istore 4, 2) := by decide +kernel
theorem dX5_fitting_42 : decode cX5_fitting 42 = .ok (.iload 4, 2) := by decide +kernel
theorem dX5_fitting_44 : decode cX5_fitting 44 = .ok (.ifCond .ge 6, 3) := by decide +kernel
theorem dX5_fitting_47 : decode cX5_fitting 47 = .ok (.iload 5, 2) := by decide +kernel
theorem dX5_fitting_49 : decode cX5_fitting 49 = .ok (.ireturn, 1) := by decide +kernel
theorem dX5_fitting_50 : decode cX5_fitting 50 = .ok (.iinc 5 1, 3) := by decide +kernel
theorem dX5_fitting_53 : decode cX5_fitting 53 = .ok (.goto (-47), 3) := by decide +kernel
theorem dX5_fitting_56 : decode cX5_fitting 56 = .ok (.iload_n 2, 1) := by decide +kernel
theorem dX5_fitting_57 : decode cX5_fitting 57 = .ok (.ireturn, 1) := by decide +kernel
theorem dX5_reach_0 : decode cX5_reach 0 = .ok (.aload_n 0, 1) := by decide +kernel
theorem dX5_reach_1 : decode cX5_reach 1 = .ok (.getfield 21, 3) := by decide +kernel
theorem dX5_reach_4 : decode cX5_reach 4 = .ok (.iconst (-1), 1) := by decide +kernel
theorem dX5_reach_5 : decode cX5_reach 5 = .ok (.if_icmp .ne 9, 3) := by decide +kernel
theorem dX5_reach_8 : decode cX5_reach 8 = .ok (.sipush 240, 3) := by decide +kernel
theorem dX5_reach_11 : decode cX5_reach 11 = .ok (.goto 7, 3) := by decide +kernel
theorem dX5_reach_14 : decode cX5_reach 14 = .ok (.aload_n 0, 1) := by decide +kernel
theorem dX5_reach_15 : decode cX5_reach 15 = .ok (.getfield 21, 3) := by decide +kernel
theorem dX5_reach_18 : decode cX5_reach 18 = .ok (.ireturn, 1) := by decide +kernel
theorem dX5_missingRuns_0 : decode cX5_missingRuns 0 = .ok (.iconst 0, 1) := by decide +kernel
theorem dX5_missingRuns_1 : decode cX5_missingRuns 1 = .ok (.istore_n 1, 1) := by decide +kernel
theorem dX5_missingRuns_2 : decode cX5_missingRuns 2 = .ok (.aload_n 0, 1) := by decide +kernel
theorem dX5_missingRuns_3 : decode cX5_missingRuns 3 = .ok (.iconst 0, 1) := by decide +kernel
theorem dX5_missingRuns_4 : decode cX5_missingRuns 4 = .ok (.aload_n 0, 1) := by decide +kernel
theorem dX5_missingRuns_5 : decode cX5_missingRuns 5 = .ok (.invokevirtual 48, 3) := by decide +kernel
theorem dX5_missingRuns_8 : decode cX5_missingRuns 8 = .ok (.iconst 0, 1) := by decide +kernel
theorem dX5_missingRuns_9 : decode cX5_missingRuns 9 = .ok (.invokevirtual 52, 3) := by decide +kernel
theorem dX5_missingRuns_12 : decode cX5_missingRuns 12 = .ok (.istore_n 2, 1) := by decide +kernel
theorem dX5_missingRuns_13 : decode cX5_missingRuns 13 = .ok (.iconst 0, 1) := by decide +kernel
theorem dX5_missingRuns_14 : decode cX5_missingRuns 14 = .ok (.istore_n 3, 1) := by decide +kernel
theorem dX5_missingRuns_15 : decode cX5_missingRuns 15 = .ok (.iload_n 3, 1) := by decide +kernel
theorem dX5_missingRuns_16 : decode cX5_missingRuns 16 = .ok (.sipush 240, 3) := by decide +kernel
theorem dX5_missingRuns_19 : decode cX5_missingRuns 19 = .ok (.if_icmp .ge 40, 3) := by decide +kernel
theorem dX5_missingRuns_22 : decode cX5_missingRuns 22 = .ok (.iload_n 2, 1) := by decide +kernel
theorem dX5_missingRuns_23 : decode cX5_missingRuns 23 = .ok (.aload_n 0, 1) := by decide +kernel
theorem dX5_missingRuns_24 : decode cX5_missingRuns 24 = .ok (.invokevirtual 48, 3) := by decide +kernel
theorem dX5_missingRuns_27 : decode cX5_missingRuns 27 = .ok (.if_icmp .ge 32, 3) := by decide +kernel
theorem dX5_missingRuns_30 : decode cX5_missingRuns 30 = .ok (.iinc 1 1, 3) := by decide +kernel
theorem dX5_missingRuns_33 : decode cX5_missingRuns 33 = .ok (.aload_n 0, 1) := by decide +kernel
theorem dX5_missingRuns_34 : decode cX5_missingRuns 34 = .ok (.aload_n 0, 1) := by decide +kernel
theorem dX5_missingRuns_35 : decode cX5_missingRuns 35 = .ok (.iload_n 2, 1) := by decide +kernel
theorem dX5_missingRuns_36 : decode cX5_missingRuns 36 = .ok (.aload_n 0, 1) := by decide +kernel
theorem dX5_missingRuns_37 : decode cX5_missingRuns 37 = .ok (.invokevirtual 48, 3) := by decide +kernel
theorem dX5_missingRuns_40 : decode cX5_missingRuns 40 = .ok (.iconst 1, 1) := by decide +kernel
theorem dX5_missingRuns_41 : decode cX5_missingRuns 41 = .ok (.invokevirtual 52, 3) := by decide +kernel
theorem dX5_missingRuns_44 : decode cX5_missingRuns 44 = .ok (.aload_n 0, 1) := by decide +kernel
theorem dX5_missingRuns_45 : decode cX5_missingRuns 45 = .ok (.invokevirtual 48, 3) := by decide +kernel
theorem dX5_missingRuns_48 : decode cX5_missingRuns 48 = .ok (.iconst 0, 1) := by decide +kernel
theorem dX5_missingRuns_49 : decode cX5_missingRuns 49 = .ok (.invokevirtual 52, 3) := by decide +kernel
theorem dX5_missingRuns_52 : decode cX5_missingRuns 52 = .ok (.istore_n 2, 1) := by decide +kernel
theorem dX5_missingRuns_53 : decode cX5_missingRuns 53 = .ok (.iinc 3 1, 3) := by decide +kernel
theorem dX5_missingRuns_56 : decode cX5_missingRuns 56 = .ok (.goto (-41), 3) := by decide +kernel
theorem dX5_missingRuns_59 : decode cX5_missingRuns 59 = .ok (.iload_n 1, 1) := by decide +kernel
theorem dX5_missingRuns_60 : decode cX5_missingRuns 60 = .ok (.ireturn, 1) := by decide +kernel
theorem dX5_writeMissing_0 : decode cX5_writeMissing 0 = .ok (.aload_n 0, 1) := by decide +kernel
theorem dX5_writeMissing_1 : decode cX5_writeMissing 1 = .ok (.iconst 0, 1) := by decide +kernel
theorem dX5_writeMissing_2 : decode cX5_writeMissing 2 = .ok (.aload_n 0, 1) := by decide +kernel
theorem dX5_writeMissing_3 : decode cX5_writeMissing 3 = .ok (.invokevirtual 48, 3) := by decide +kernel
theorem dX5_writeMissing_6 : decode cX5_writeMissing 6 = .ok (.iconst 0, 1) := by decide +kernel
theorem dX5_writeMissing_7 : decode cX5_writeMissing 7 = .ok (.invokevirtual 52, 3) := by decide +kernel
theorem dX5_writeMissing_10 : decode cX5_writeMissing 10 = .ok (.istore_n 3, 1) := by decide +kernel
theorem dX5_writeMissing_11 : decode cX5_writeMissing 11 = .ok (.iconst 0, 1) := by decide +kernel
theorem dX5_writeMissing_12 : decode cX5_writeMissing 12 = .ok (.istore 4, 2) := by decide +kernel
theorem dX5_writeMissing_14 : decode cX5_writeMissing 14 = .ok (.iload 4, 2) := by decide +kernel
theorem dX5_writeMissing_16 : decode cX5_writeMissing 16 = .ok (.sipush 240, 3) := by decide +kernel
theorem dX5_writeMissing_19 : decode cX5_writeMissing 19 = .ok (.if_icmp .ge 88, 3) := by decide +kernel
theorem dX5_writeMissing_22 : decode cX5_writeMissing 22 = .ok (.iload_n 3, 1) := by decide +kernel
theorem dX5_writeMissing_23 : decode cX5_writeMissing 23 = .ok (.aload_n 0, 1) := by decide +kernel
theorem dX5_writeMissing_24 : decode cX5_writeMissing 24 = .ok (.invokevirtual 48, 3) := by decide +kernel
theorem dX5_writeMissing_27 : decode cX5_writeMissing 27 = .ok (.if_icmp .ge 80, 3) := by decide +kernel
theorem dX5_writeMissing_30 : decode cX5_writeMissing 30 = .ok (.aload_n 0, 1) := by decide +kernel
theorem dX5_writeMissing_31 : decode cX5_writeMissing 31 = .ok (.iload_n 3, 1) := by decide +kernel
theorem dX5_writeMissing_32 : decode cX5_writeMissing 32 = .ok (.aload_n 0, 1) := by decide +kernel
theorem dX5_writeMissing_33 : decode cX5_writeMissing 33 = .ok (.invokevirtual 48, 3) := by decide +kernel
theorem dX5_writeMissing_36 : decode cX5_writeMissing 36 = .ok (.iconst 1, 1) := by decide +kernel
theorem dX5_writeMissing_37 : decode cX5_writeMissing 37 = .ok (.invokevirtual 52, 3) := by decide +kernel
theorem dX5_writeMissing_40 : decode cX5_writeMissing 40 = .ok (.istore 5, 2) := by decide +kernel
theorem dX5_writeMissing_42 : decode cX5_writeMissing 42 = .ok (.aload_n 1, 1) := by decide +kernel
theorem dX5_writeMissing_43 : decode cX5_writeMissing 43 = .ok (.iload_n 2, 1) := by decide +kernel
theorem dX5_writeMissing_44 : decode cX5_writeMissing 44 = .ok (.bipush 63, 2) := by decide +kernel
theorem dX5_writeMissing_46 : decode cX5_writeMissing 46 = .ok (.iand, 1) := by decide +kernel
theorem dX5_writeMissing_47 : decode cX5_writeMissing 47 = .ok (.sipush 128, 3) := by decide +kernel
theorem dX5_writeMissing_50 : decode cX5_writeMissing 50 = .ok (.iadd, 1) := by decide +kernel
theorem dX5_writeMissing_51 : decode cX5_writeMissing 51 = .ok (.invokevirtual 56, 3) := by decide +kernel
theorem dX5_writeMissing_54 : decode cX5_writeMissing 54 = .ok (.aload_n 1, 1) := by decide +kernel
theorem dX5_writeMissing_55 : decode cX5_writeMissing 55 = .ok (.iload_n 3, 1) := by decide +kernel
theorem dX5_writeMissing_56 : decode cX5_writeMissing 56 = .ok (.invokevirtual 56, 3) := by decide +kernel
theorem dX5_writeMissing_59 : decode cX5_writeMissing 59 = .ok (.aload_n 1, 1) := by decide +kernel
theorem dX5_writeMissing_60 : decode cX5_writeMissing 60 = .ok (.aload_n 0, 1) := by decide +kernel
theorem dX5_writeMissing_61 : decode cX5_writeMissing 61 = .ok (.getfield 21, 3) := by decide +kernel
theorem dX5_writeMissing_64 : decode cX5_writeMissing 64 = .ok (.iconst (-1), 1) := by decide +kernel
theorem dX5_writeMissing_65 : decode cX5_writeMissing 65 = .ok (.if_icmp .ne 17, 3) := by decide +kernel
theorem dX5_writeMissing_68 : decode cX5_writeMissing 68 = .ok (.iload 5, 2) := by decide +kernel
theorem dX5_writeMissing_70 : decode cX5_writeMissing 70 = .ok (.sipush 240, 3) := by decide +kernel
theorem dX5_writeMissing_73 : decode cX5_writeMissing 73 = .ok (.if_icmp .ne 9, 3) := by decide +kernel
theorem dX5_writeMissing_76 : decode cX5_writeMissing 76 = .ok (.sipush 255, 3) := by decide +kernel
theorem dX5_writeMissing_79 : decode cX5_writeMissing 79 = .ok (.goto 7, 3) := by decide +kernel
theorem dX5_writeMissing_82 : decode cX5_writeMissing 82 = .ok (.iload 5, 2) := by decide +kernel
theorem dX5_writeMissing_84 : decode cX5_writeMissing 84 = .ok (.iconst 1, 1) := by decide +kernel
theorem dX5_writeMissing_85 : decode cX5_writeMissing 85 = .ok (.isub, 1) := by decide +kernel
theorem dX5_writeMissing_86 : decode cX5_writeMissing 86 = .ok (.invokevirtual 56, 3) := by decide +kernel
theorem dX5_writeMissing_89 : decode cX5_writeMissing 89 = .ok (.aload_n 0, 1) := by decide +kernel
theorem dX5_writeMissing_90 : decode cX5_writeMissing 90 = .ok (.iload 5, 2) := by decide +kernel
theorem dX5_writeMissing_92 : decode cX5_writeMissing 92 = .ok (.aload_n 0, 1) := by decide +kernel
theorem dX5_writeMissing_93 : decode cX5_writeMissing 93 = .ok (.invokevirtual 48, 3) := by decide +kernel
theorem dX5_writeMissing_96 : decode cX5_writeMissing 96 = .ok (.iconst 0, 1) := by decide +kernel
theorem dX5_writeMissing_97 : decode cX5_writeMissing 97 = .ok (.invokevirtual 52, 3) := by decide +kernel
theorem dX5_writeMissing_100 : decode cX5_writeMissing 100 = .ok (.istore_n 3, 1) := by decide +kernel
theorem dX5_writeMissing_101 : decode cX5_writeMissing 101 = .ok (.iinc 4 1, 3) := by decide +kernel
theorem dX5_writeMissing_104 : decode cX5_writeMissing 104 = .ok (.goto (-90), 3) := by decide +kernel
theorem dX5_writeMissing_107 : decode cX5_writeMissing 107 = .ok (.return_, 1) := by decide +kernel
theorem dX5_writeData_0 : decode cX5_writeData 0 = .ok (.iload_n 3, 1) := by decide +kernel
theorem dX5_writeData_1 : decode cX5_writeData 1 = .ok (.ifCond .gt 12, 3) := by decide +kernel
theorem dX5_writeData_4 : decode cX5_writeData 4 = .ok (.iload 4, 2) := by decide +kernel
theorem dX5_writeData_6 : decode cX5_writeData 6 = .ok (.aload_n 0, 1) := by decide +kernel
theorem dX5_writeData_7 : decode cX5_writeData 7 = .ok (.getfield 21, 3) := by decide +kernel
theorem dX5_writeData_10 : decode cX5_writeData 10 = .ok (.if_icmp .ge 7, 3) := by decide +kernel
theorem dX5_writeData_13 : decode cX5_writeData 13 = .ok (.iconst 1, 1) := by decide +kernel
theorem dX5_writeData_14 : decode cX5_writeData 14 = .ok (.goto 4, 3) := by decide +kernel
theorem dX5_writeData_17 : decode cX5_writeData 17 = .ok (.iconst 0, 1) := by decide +kernel
theorem dX5_writeData_18 : decode cX5_writeData 18 = .ok (.istore 6, 2) := by decide +kernel
theorem dX5_writeData_20 : decode cX5_writeData 20 = .ok (.aload_n 0, 1) := by decide +kernel
theorem dX5_writeData_21 : decode cX5_writeData 21 = .ok (.iload_n 3, 1) := by decide +kernel
theorem dX5_writeData_22 : decode cX5_writeData 22 = .ok (.iload 4, 2) := by decide +kernel
theorem dX5_writeData_24 : decode cX5_writeData 24 = .ok (.invokevirtual 62, 3) := by decide +kernel
theorem dX5_writeData_27 : decode cX5_writeData 27 = .ok (.istore 7, 2) := by decide +kernel
theorem dX5_writeData_29 : decode cX5_writeData 29 = .ok (.aload_n 1, 1) := by decide +kernel
theorem dX5_writeData_30 : decode cX5_writeData 30 = .ok (.sipush 128, 3) := by decide +kernel
theorem dX5_writeData_33 : decode cX5_writeData 33 = .ok (.iload 6, 2) := by decide +kernel
theorem dX5_writeData_35 : decode cX5_writeData 35 = .ok (.ifCond .eq 8, 3) := by decide +kernel
theorem dX5_writeData_38 : decode cX5_writeData 38 = .ok (.bipush 64, 2) := by decide +kernel
theorem dX5_writeData_40 : decode cX5_writeData 40 = .ok (.goto 4, 3) := by decide +kernel
theorem dX5_writeData_43 : decode cX5_writeData 43 = .ok (.iconst 0, 1) := by decide +kernel
theorem dX5_writeData_44 : decode cX5_writeData 44 = .ok (.iadd, 1) := by decide +kernel
theorem dX5_writeData_45 : decode cX5_writeData 45 = .ok (.iload 5, 2) := by decide +kernel
theorem dX5_writeData_47 : decode cX5_writeData 47 = .ok (.ifCond .eq 8, 3) := by decide +kernel
theorem dX5_writeData_50 : decode cX5_writeData 50 = .ok (.bipush 32, 2) := by decide +kernel
theorem dX5_writeData_52 : decode cX5_writeData 52 = .ok (.goto 4, 3) := by decide +kernel
theorem dX5_writeData_55 : decode cX5_writeData 55 = .ok (.iconst 0, 1) := by decide +kernel
theorem dX5_writeData_56 : decode cX5_writeData 56 = .ok (.iadd, 1) := by decide +kernel
theorem dX5_writeData_57 : decode cX5_writeData 57 = .ok (.aload_n 0, 1) := by decide +kernel
theorem dX5_writeData_58 : decode cX5_writeData 58 = .ok (.iload_n 3, 1) := by decide +kernel
theorem dX5_writeData_59 : decode cX5_writeData 59 = .ok (.sipush 256, 3) := by decide +kernel
theorem dX5_writeData_62 : decode cX5_writeData 62 = .ok (.invokevirtual 44, 3) := by decide +kernel
theorem dX5_writeData_65 : decode cX5_writeData 65 = .ok (.ifCond .eq 7, 3) := by decide +kernel
theorem dX5_writeData_68 : decode cX5_writeData 68 = .ok (.iconst 0, 1) := by decide +kernel
theorem dX5_writeData_69 : decode cX5_writeData 69 = .ok (.goto 5, 3) := by decide +kernel
theorem dX5_writeData_72 : decode cX5_writeData 72 = .ok (.bipush 16, 2) := by decide +kernel
theorem dX5_writeData_74 : decode cX5_writeData 74 = .ok (.iadd, 1) := by decide +kernel
theorem dX5_writeData_75 : decode cX5_writeData 75 = .ok (.aload_n 0, 1) := by decide +kernel
theorem dX5_writeData_76 : decode cX5_writeData 76 = .ok (.iload 4, 2) := by decide +kernel
theorem dX5_writeData_78 : decode cX5_writeData 78 = .ok (.iconst 1, 1) := by decide +kernel
theorem dX5_writeData_79 : decode cX5_writeData 79 = .ok (.isub, 1) := by decide +kernel
theorem dX5_writeData_80 : decode cX5_writeData 80 = .ok (.sipush 512, 3) := by decide +kernel
theorem dX5_writeData_83 : decode cX5_writeData 83 = .ok (.invokevirtual 44, 3) := by decide +kernel
theorem dX5_writeData_86 : decode cX5_writeData 86 = .ok (.ifCond .eq 7, 3) := by decide +kernel
theorem dX5_writeData_89 : decode cX5_writeData 89 = .ok (.iconst 0, 1) := by decide +kernel
theorem dX5_writeData_90 : decode cX5_writeData 90 = .ok (.goto 5, 3) := by decide +kernel
theorem dX5_writeData_93 : decode cX5_writeData 93 = .ok (.bipush 8, 2) := by decide +kernel
theorem dX5_writeData_95 : decode cX5_writeData 95 = .ok (.iadd, 1) := by decide +kernel
theorem dX5_writeData_96 : decode cX5_writeData 96 = .ok (.iload 7, 2) := by decide +kernel
theorem dX5_writeData_98 : decode cX5_writeData 98 = .ok (.ifCond .le 7, 3) := by decide +kernel
theorem dX5_writeData_101 : decode cX5_writeData 101 = .ok (.iconst 4, 1) := by decide +kernel
theorem dX5_writeData_102 : decode cX5_writeData 102 = .ok (.goto 4, 3) := by decide +kernel
theorem dX5_writeData_105 : decode cX5_writeData 105 = .ok (.iconst 0, 1) := by decide +kernel
theorem dX5_writeData_106 : decode cX5_writeData 106 = .ok (.iadd, 1) := by decide +kernel
theorem dX5_writeData_107 : decode cX5_writeData 107 = .ok (.invokevirtual 56, 3) := by decide +kernel
theorem dX5_writeData_110 : decode cX5_writeData 110 = .ok (.aload_n 1, 1) := by decide +kernel
theorem dX5_writeData_111 : decode cX5_writeData 111 = .ok (.iload_n 2, 1) := by decide +kernel
theorem dX5_writeData_112 : decode cX5_writeData 112 = .ok (.bipush 63, 2) := by decide +kernel
theorem dX5_writeData_114 : decode cX5_writeData 114 = .ok (.iand, 1) := by decide +kernel
theorem dX5_writeData_115 : decode cX5_writeData 115 = .ok (.iload 6, 2) := by decide +kernel
theorem dX5_writeData_117 : decode cX5_writeData 117 = .ok (.ifCond .eq 18, 3) := by decide +kernel
theorem dX5_writeData_120 : decode cX5_writeData 120 = .ok (.iload 4, 2) := by decide +kernel
theorem dX5_writeData_122 : decode cX5_writeData 122 = .ok (.aload_n 0, 1) := by decide +kernel
theorem dX5_writeData_123 : decode cX5_writeData 123 = .ok (.getfield 21, 3) := by decide +kernel
theorem dX5_writeData_126 : decode cX5_writeData 126 = .ok (.if_icmp .ne 9, 3) := by decide +kernel
theorem dX5_writeData_129 : decode cX5_writeData 129 = .ok (.sipush 128, 3) := by decide +kernel
theorem dX5_writeData_132 : decode cX5_writeData 132 = .ok (.goto 4, 3) := by decide +kernel
theorem dX5_writeData_135 : decode cX5_writeData 135 = .ok (.iconst 0, 1) := by decide +kernel
theorem dX5_writeData_136 : decode cX5_writeData 136 = .ok (.iadd, 1) := by decide +kernel
theorem dX5_writeData_137 : decode cX5_writeData 137 = .ok (.invokevirtual 56, 3) := by decide +kernel
theorem dX5_writeData_140 : decode cX5_writeData 140 = .ok (.iload 6, 2) := by decide +kernel
theorem dX5_writeData_142 : decode cX5_writeData 142 = .ok (.ifCond .eq 8, 3) := by decide +kernel
theorem dX5_writeData_145 : decode cX5_writeData 145 = .ok (.aload_n 1, 1) := by decide +kernel
theorem dX5_writeData_146 : decode cX5_writeData 146 = .ok (.iload_n 3, 1) := by decide +kernel
theorem dX5_writeData_147 : decode cX5_writeData 147 = .ok (.invokevirtual 56, 3) := by decide +kernel
theorem dX5_writeData_150 : decode cX5_writeData 150 = .ok (.aload_n 0, 1) := by decide +kernel
theorem dX5_writeData_151 : decode cX5_writeData 151 = .ok (.aload_n 1, 1) := by decide +kernel
theorem dX5_writeData_152 : decode cX5_writeData 152 = .ok (.iload_n 3, 1) := by decide +kernel
theorem dX5_writeData_153 : decode cX5_writeData 153 = .ok (.iload 4, 2) := by decide +kernel
theorem dX5_writeData_155 : decode cX5_writeData 155 = .ok (.iload 7, 2) := by decide +kernel
theorem dX5_writeData_157 : decode cX5_writeData 157 = .ok (.invokevirtual 65, 3) := by decide +kernel
theorem dX5_writeData_160 : decode cX5_writeData 160 = .ok (.iload_n 3, 1) := by decide +kernel
theorem dX5_writeData_161 : decode cX5_writeData 161 = .ok (.istore 8, 2) := by decide +kernel
theorem dX5_writeData_163 : decode cX5_writeData 163 = .ok (.iload 8, 2) := by decide +kernel
theorem dX5_writeData_165 : decode cX5_writeData 165 = .ok (.iload 4, 2) := by decide +kernel
theorem dX5_writeData_167 : decode cX5_writeData 167 = .ok (.if_icmp .ge 23, 3) := by decide +kernel
theorem dX5_writeData_170 : decode cX5_writeData 170 = .ok (.aload_n 1, 1) := by decide +kernel
theorem dX5_writeData_171 : decode cX5_writeData 171 = .ok (.aload_n 0, 1) := by decide +kernel
theorem dX5_writeData_172 : decode cX5_writeData 172 = .ok (.iload 8, 2) := by decide +kernel
theorem dX5_writeData_174 : decode cX5_writeData 174 = .ok (.invokevirtual 69, 3) := by decide +kernel
theorem dX5_writeData_177 : decode cX5_writeData 177 = .ok (.sipush 255, 3) := by decide +kernel
theorem dX5_writeData_180 : decode cX5_writeData 180 = .ok (.iand, 1) := by decide +kernel
theorem dX5_writeData_181 : decode cX5_writeData 181 = .ok (.invokevirtual 56, 3) := by decide +kernel
theorem dX5_writeData_184 : decode cX5_writeData 184 = .ok (.iinc 8 1, 3) := by decide +kernel
theorem dX5_writeData_187 : decode cX5_writeData 187 = .ok (.goto (-24), 3) := by decide +kernel
theorem dX5_writeData_190 : decode cX5_writeData 190 = .ok (.return_, 1) := by decide +kernel
theorem dX5_writeLengths_0 : decode cX5_writeLengths 0 = .ok (.iload 4, 2) := by decide +kernel
theorem dX5_writeLengths_2 : decode cX5_writeLengths 2 = .ok (.istore 5, 2) := by decide +kernel
theorem dX5_writeLengths_4 : decode cX5_writeLengths 4 = .ok (.iload_n 2, 1) := by decide +kernel
theorem dX5_writeLengths_5 : decode cX5_writeLengths 5 = .ok (.istore 6, 2) := by decide +kernel
theorem dX5_writeLengths_7 : decode cX5_writeLengths 7 = .ok (.iload_n 2, 1) := by decide +kernel
theorem dX5_writeLengths_8 : decode cX5_writeLengths 8 = .ok (.istore 7, 2) := by decide +kernel
theorem dX5_writeLengths_10 : decode cX5_writeLengths 10 = .ok (.iload 7, 2) := by decide +kernel
theorem dX5_writeLengths_12 : decode cX5_writeLengths 12 = .ok (.iload_n 3, 1) := by decide +kernel
theorem dX5_writeLengths_13 : decode cX5_writeLengths 13 = .ok (.iconst 1, 1) := by decide +kernel
theorem dX5_writeLengths_14 : decode cX5_writeLengths 14 = .ok (.isub, 1) := by decide +kernel
theorem dX5_writeLengths_15 : decode cX5_writeLengths 15 = .ok (.if_icmp .ge 54, 3) := by decide +kernel
theorem dX5_writeLengths_18 : decode cX5_writeLengths 18 = .ok (.aload_n 0, 1) := by decide +kernel
theorem dX5_writeLengths_19 : decode cX5_writeLengths 19 = .ok (.iload 7, 2) := by decide +kernel
theorem dX5_writeLengths_21 : decode cX5_writeLengths 21 = .ok (.sipush 512, 3) := by decide +kernel
theorem dX5_writeLengths_24 : decode cX5_writeLengths 24 = .ok (.invokevirtual 44, 3) := by decide +kernel
theorem dX5_writeLengths_27 : decode cX5_writeLengths 27 = .ok (.ifCond .eq 36, 3) := by decide +kernel
theorem dX5_writeLengths_30 : decode cX5_writeLengths 30 = .ok (.iinc 5 (-1), 3) := by decide +kernel
theorem dX5_writeLengths_33 : decode cX5_writeLengths 33 = .ok (.aload_n 1, 1) := by decide +kernel
theorem dX5_writeLengths_34 : decode cX5_writeLengths 34 = .ok (.iload 7, 2) := by decide +kernel
theorem dX5_writeLengths_36 : decode cX5_writeLengths 36 = .ok (.iconst 1, 1) := by decide +kernel
theorem dX5_writeLengths_37 : decode cX5_writeLengths 37 = .ok (.iadd, 1) := by decide +kernel
theorem dX5_writeLengths_38 : decode cX5_writeLengths 38 = .ok (.iload 6, 2) := by decide +kernel
theorem dX5_writeLengths_40 : decode cX5_writeLengths 40 = .ok (.isub, 1) := by decide +kernel
theorem dX5_writeLengths_41 : decode cX5_writeLengths 41 = .ok (.iload 5, 2) := by decide +kernel
theorem dX5_writeLengths_43 : decode cX5_writeLengths 43 = .ok (.ifCond .le 9, 3) := by decide +kernel
theorem dX5_writeLengths_46 : decode cX5_writeLengths 46 = .ok (.sipush 128, 3) := by decide +kernel
theorem dX5_writeLengths_49 : decode cX5_writeLengths 49 = .ok (.goto 4, 3) := by decide +kernel
theorem dX5_writeLengths_52 : decode cX5_writeLengths 52 = .ok (.iconst 0, 1) := by decide +kernel
theorem dX5_writeLengths_53 : decode cX5_writeLengths 53 = .ok (.iadd, 1) := by decide +kernel
theorem dX5_writeLengths_54 : decode cX5_writeLengths 54 = .ok (.invokevirtual 56, 3) := by decide +kernel
theorem dX5_writeLengths_57 : decode cX5_writeLengths 57 = .ok (.iload 7, 2) := by decide +kernel
theorem dX5_writeLengths_59 : decode cX5_writeLengths 59 = .ok (.iconst 1, 1) := by decide +kernel
theorem dX5_writeLengths_60 : decode cX5_writeLengths 60 = .ok (.iadd, 1) := by decide +kernel
theorem dX5_writeLengths_61 : decode cX5_writeLengths 61 = .ok (.istore 6, 2) := by decide +kernel
theorem dX5_writeLengths_63 : decode cX5_writeLengths 63 = .ok (.iinc 7 1, 3) := by decide +kernel
theorem dX5_writeLengths_66 : decode cX5_writeLengths 66 = .ok (.goto (-56), 3) := by decide +kernel
theorem dX5_writeLengths_69 : decode cX5_writeLengths 69 = .ok (.return_, 1) := by decide +kernel
theorem dX6_init_0 : decode cX6_init 0 = .ok (.aload_n 0, 1) := by decide +kernel
theorem dX6_init_1 : decode cX6_init 1 = .ok (.invokespecial 3, 3) := by decide +kernel
theorem dX6_init_4 : decode cX6_init 4 = .ok (.aload_n 0, 1) := by decide +kernel
theorem dX6_init_5 : decode cX6_init 5 = .ok (.bipush 32, 2) := by decide +kernel
theorem dX6_init_7 : decode cX6_init 7 = .ok (.anewarray 9, 3) := by decide +kernel
theorem dX6_init_10 : decode cX6_init 10 = .ok (.putfield 11, 3) := by decide +kernel
theorem dX6_init_13 : decode cX6_init 13 = .ok (.aload_n 0, 1) := by decide +kernel
theorem dX6_init_14 : decode cX6_init 14 = .ok (.iconst (-1), 1) := by decide +kernel
theorem dX6_init_15 : decode cX6_init 15 = .ok (.putfield 17, 3) := by decide +kernel
theorem dX6_init_18 : decode cX6_init 18 = .ok (.aload_n 0, 1) := by decide +kernel
theorem dX6_init_19 : decode cX6_init 19 = .ok (.new 21, 3) := by decide +kernel
theorem dX6_init_22 : decode cX6_init 22 = .ok (.dup, 1) := by decide +kernel
theorem dX6_init_23 : decode cX6_init 23 = .ok (.iload_n 1, 1) := by decide +kernel
theorem dX6_init_24 : decode cX6_init 24 = .ok (.invokespecial 23, 3) := by decide +kernel
theorem dX6_init_27 : decode cX6_init 27 = .ok (.putfield 26, 3) := by decide +kernel
theorem dX6_init_30 : decode cX6_init 30 = .ok (.iconst 0, 1) := by decide +kernel
theorem dX6_init_31 : decode cX6_init 31 = .ok (.istore_n 2, 1) := by decide +kernel
theorem dX6_init_32 : decode cX6_init 32 = .ok (.iload_n 2, 1) := by decide +kernel
theorem dX6_init_33 : decode cX6_init 33 = .ok (.aload_n 0, 1) := by decide +kernel
theorem dX6_init_34 : decode cX6_init 34 = .ok (.getfield 11, 3) := by decide +kernel
theorem dX6_init_37 : decode cX6_init 37 = .ok (.arraylength, 1) := by decide +kernel
theorem dX6_init_38 : decode cX6_init 38 = .ok (.if_icmp .ge 32, 3) := by decide +kernel
theorem dX6_init_41 : decode cX6_init 41 = .ok (.aload_n 0, 1) := by decide +kernel
theorem dX6_init_42 : decode cX6_init 42 = .ok (.getfield 11, 3) := by decide +kernel
theorem dX6_init_45 : decode cX6_init 45 = .ok (.iload_n 2, 1) := by decide +kernel
theorem dX6_init_46 : decode cX6_init 46 = .ok (.new 9, 3) := by decide +kernel
theorem dX6_init_49 : decode cX6_init 49 = .ok (.dup, 1) := by decide +kernel
theorem dX6_init_50 : decode cX6_init 50 = .ok (.invokespecial 30, 3) := by decide +kernel
theorem dX6_init_53 : decode cX6_init 53 = .ok (.aastore, 1) := by decide +kernel
theorem dX6_init_54 : decode cX6_init 54 = .ok (.aload_n 0, 1) := by decide +kernel
theorem dX6_init_55 : decode cX6_init 55 = .ok (.getfield 11, 3) := by decide +kernel
theorem dX6_init_58 : decode cX6_init 58 = .ok (.iload_n 2, 1) := by decide +kernel
theorem dX6_init_59 : decode cX6_init 59 = .ok (.aaload, 1) := by decide +kernel
theorem dX6_init_60 : decode cX6_init 60 = .ok (.iconst (-1), 1) := by decide +kernel
theorem dX6_init_61 : decode cX6_init 61 = .ok (.putfield 31, 3) := by decide +kernel
theorem dX6_init_64 : decode cX6_init 64 = .ok (.iinc 2 1, 3) := by decide +kernel
theorem dX6_init_67 : decode cX6_init 67 = .ok (.goto (-35), 3) := by decide +kernel
theorem dX6_init_70 : decode cX6_init 70 = .ok (.return_, 1) := by decide +kernel
theorem dX6_pieceAt_0 : decode cX6_pieceAt 0 = .ok (.aload_n 0, 1) := by decide +kernel
theorem dX6_pieceAt_1 : decode cX6_pieceAt 1 = .ok (.getfield 11, 3) := by decide +kernel
theorem dX6_pieceAt_4 : decode cX6_pieceAt 4 = .ok (.iload_n 1, 1) := by decide +kernel
theorem dX6_pieceAt_5 : decode cX6_pieceAt 5 = .ok (.bipush 31, 2) := by decide +kernel
theorem dX6_pieceAt_7 : decode cX6_pieceAt 7 = .ok (.iand, 1) := by decide +kernel
theorem dX6_pieceAt_8 : decode cX6_pieceAt 8 = .ok (.aaload, 1) := by decide +kernel
theorem dX6_pieceAt_9 : decode cX6_pieceAt 9 = .ok (.areturn, 1) := by decide +kernel
theorem dX6_startAnew_0 : decode cX6_startAnew 0 = .ok (.aload_n 0, 1) := by decide +kernel
theorem dX6_startAnew_1 : decode cX6_startAnew 1 = .ok (.getfield 34, 3) := by decide +kernel
theorem dX6_startAnew_4 : decode cX6_startAnew 4 = .ok (.istore_n 1, 1) := by decide +kernel
theorem dX6_startAnew_5 : decode cX6_startAnew 5 = .ok (.iload_n 1, 1) := by decide +kernel
theorem dX6_startAnew_6 : decode cX6_startAnew 6 = .ok (.aload_n 0, 1) := by decide +kernel
theorem dX6_startAnew_7 : decode cX6_startAnew 7 = .ok (.getfield 37, 3) := by decide +kernel
theorem dX6_startAnew_10 : decode cX6_startAnew 10 = .ok (.if_icmp .ge 18, 3) := by decide +kernel
theorem dX6_startAnew_13 : decode cX6_startAnew 13 = .ok (.aload_n 0, 1) := by decide +kernel
theorem dX6_startAnew_14 : decode cX6_startAnew 14 = .ok (.iload_n 1, 1) := by decide +kernel
theorem dX6_startAnew_15 : decode cX6_startAnew 15 = .ok (.invokevirtual 40, 3) := by decide +kernel
theorem dX6_startAnew_18 : decode cX6_startAnew 18 = .ok (.iconst (-1), 1) := by decide +kernel
theorem dX6_startAnew_19 : decode cX6_startAnew 19 = .ok (.invokevirtual 44, 3) := by decide +kernel
theorem dX6_startAnew_22 : decode cX6_startAnew 22 = .ok (.iinc 1 1, 3) := by decide +kernel
theorem dX6_startAnew_25 : decode cX6_startAnew 25 = .ok (.goto (-20), 3) := by decide +kernel
theorem dX6_startAnew_28 : decode cX6_startAnew 28 = .ok (.aload_n 0, 1) := by decide +kernel
theorem dX6_startAnew_29 : decode cX6_startAnew 29 = .ok (.iconst 0, 1) := by decide +kernel
theorem dX6_startAnew_30 : decode cX6_startAnew 30 = .ok (.putfield 34, 3) := by decide +kernel
theorem dX6_startAnew_33 : decode cX6_startAnew 33 = .ok (.aload_n 0, 1) := by decide +kernel
theorem dX6_startAnew_34 : decode cX6_startAnew 34 = .ok (.iconst 0, 1) := by decide +kernel
theorem dX6_startAnew_35 : decode cX6_startAnew 35 = .ok (.putfield 37, 3) := by decide +kernel
theorem dX6_startAnew_38 : decode cX6_startAnew 38 = .ok (.aload_n 0, 1) := by decide +kernel
theorem dX6_startAnew_39 : decode cX6_startAnew 39 = .ok (.iconst 0, 1) := by decide +kernel
theorem dX6_startAnew_40 : decode cX6_startAnew 40 = .ok (.putfield 47, 3) := by decide +kernel
theorem dX6_startAnew_43 : decode cX6_startAnew 43 = .ok (.aload_n 0, 1) := by decide +kernel
theorem dX6_startAnew_44 : decode cX6_startAnew 44 = .ok (.iconst 0, 1) := by decide +kernel
theorem dX6_startAnew_45 : decode cX6_startAnew 45 = .ok (.putfield 50, 3) := by decide +kernel
theorem dX6_startAnew_48 : decode cX6_startAnew 48 = .ok (.aload_n 0, 1) := by decide +kernel
theorem dX6_startAnew_49 : decode cX6_startAnew 49 = .ok (.iconst (-1), 1) := by decide +kernel
theorem dX6_startAnew_50 : decode cX6_startAnew 50 = .ok (.putfield 17, 3) := by decide +kernel
theorem dX6_startAnew_53 : decode cX6_startAnew 53 = .ok (.aload_n 0, 1) := by decide +kernel
theorem dX6_startAnew_54 : decode cX6_startAnew 54 = .ok (.iconst 0, 1) := by decide +kernel
theorem dX6_startAnew_55 : decode cX6_startAnew 55 = .ok (.putfield 53, 3) := by decide +kernel
theorem dX6_startAnew_58 : decode cX6_startAnew 58 = .ok (.aload_n 0, 1) := by decide +kernel
theorem dX6_startAnew_59 : decode cX6_startAnew 59 = .ok (.iconst 0, 1) := by decide +kernel
theorem dX6_startAnew_60 : decode cX6_startAnew 60 = .ok (.putfield 57, 3) := by decide +kernel
theorem dX6_startAnew_63 : decode cX6_startAnew 63 = .ok (.aload_n 0, 1) := by decide +kernel
theorem dX6_startAnew_64 : decode cX6_startAnew 64 = .ok (.iconst 0, 1) := by decide +kernel
theorem dX6_startAnew_65 : decode cX6_startAnew 65 = .ok (.putfield 60, 3) := by decide +kernel
theorem dX6_startAnew_68 : decode cX6_startAnew 68 = .ok (.return_, 1) := by decide +kernel
theorem dX6_isWhole_0 : decode cX6_isWhole 0 = .ok (.aload_n 0, 1) := by decide +kernel
theorem dX6_isWhole_1 : decode cX6_isWhole 1 = .ok (.iload_n 1, 1) := by decide +kernel
theorem dX6_isWhole_2 : decode cX6_isWhole 2 = .ok (.invokevirtual 40, 3) := by decide +kernel
theorem dX6_isWhole_5 : decode cX6_isWhole 5 = .ok (.astore_n 2, 1) := by decide +kernel
theorem dX6_isWhole_6 : decode cX6_isWhole 6 = .ok (.iload_n 1, 1) := by decide +kernel
theorem dX6_isWhole_7 : decode cX6_isWhole 7 = .ok (.aload_n 0, 1) := by decide +kernel
theorem dX6_isWhole_8 : decode cX6_isWhole 8 = .ok (.getfield 34, 3) := by decide +kernel
theorem dX6_isWhole_11 : decode cX6_isWhole 11 = .ok (.if_icmp .lt 34, 3) := by decide +kernel
theorem dX6_isWhole_14 : decode cX6_isWhole 14 = .ok (.iload_n 1, 1) := by decide +kernel
theorem dX6_isWhole_15 : decode cX6_isWhole 15 = .ok (.aload_n 0, 1) := by decide +kernel
theorem dX6_isWhole_16 : decode cX6_isWhole 16 = .ok (.getfield 37, 3) := by decide +kernel
theorem dX6_isWhole_19 : decode cX6_isWhole 19 = .ok (.if_icmp .ge 26, 3) := by decide +kernel
theorem dX6_isWhole_22 : decode cX6_isWhole 22 = .ok (.aload_n 2, 1) := by decide +kernel
theorem dX6_isWhole_23 : decode cX6_isWhole 23 = .ok (.getfield 31, 3) := by decide +kernel
theorem dX6_isWhole_26 : decode cX6_isWhole 26 = .ok (.iconst (-1), 1) := by decide +kernel
theorem dX6_isWhole_27 : decode cX6_isWhole 27 = .ok (.if_icmp .eq 18, 3) := by decide +kernel
theorem dX6_isWhole_30 : decode cX6_isWhole 30 = .ok (.aload_n 2, 1) := by decide +kernel
theorem dX6_isWhole_31 : decode cX6_isWhole 31 = .ok (.getfield 63, 3) := by decide +kernel
theorem dX6_isWhole_34 : decode cX6_isWhole 34 = .ok (.aload_n 2, 1) := by decide +kernel
theorem dX6_isWhole_35 : decode cX6_isWhole 35 = .ok (.getfield 31, 3) := by decide +kernel
theorem dX6_isWhole_38 : decode cX6_isWhole 38 = .ok (.if_icmp .ne 7, 3) := by decide +kernel
theorem dX6_isWhole_41 : decode cX6_isWhole 41 = .ok (.iconst 1, 1) := by decide +kernel
theorem dX6_isWhole_42 : decode cX6_isWhole 42 = .ok (.goto 4, 3) := by decide +kernel
theorem dX6_isWhole_45 : decode cX6_isWhole 45 = .ok (.iconst 0, 1) := by decide +kernel
theorem dX6_isWhole_46 : decode cX6_isWhole 46 = .ok (.ireturn, 1) := by decide +kernel
theorem dX6_heldBytes_0 : decode cX6_heldBytes 0 = .ok (.iconst 0, 1) := by decide +kernel
theorem dX6_heldBytes_1 : decode cX6_heldBytes 1 = .ok (.istore_n 1, 1) := by decide +kernel
theorem dX6_heldBytes_2 : decode cX6_heldBytes 2 = .ok (.aload_n 0, 1) := by decide +kernel
theorem dX6_heldBytes_3 : decode cX6_heldBytes 3 = .ok (.getfield 34, 3) := by decide +kernel
theorem dX6_heldBytes_6 : decode cX6_heldBytes 6 = .ok (.istore_n 2, 1) := by decide +kernel
theorem dX6_heldBytes_7 : decode cX6_heldBytes 7 = .ok (.iload_n 2, 1) := by decide +kernel
theorem dX6_heldBytes_8 : decode cX6_heldBytes 8 = .ok (.aload_n 0, 1) := by decide +kernel
theorem dX6_heldBytes_9 : decode cX6_heldBytes 9 = .ok (.getfield 37, 3) := by decide +kernel
theorem dX6_heldBytes_12 : decode cX6_heldBytes 12 = .ok (.if_icmp .ge 20, 3) := by decide +kernel
theorem dX6_heldBytes_15 : decode cX6_heldBytes 15 = .ok (.iload_n 1, 1) := by decide +kernel
theorem dX6_heldBytes_16 : decode cX6_heldBytes 16 = .ok (.aload_n 0, 1) := by decide +kernel
theorem dX6_heldBytes_17 : decode cX6_heldBytes 17 = .ok (.iload_n 2, 1) := by decide +kernel
theorem dX6_heldBytes_18 : decode cX6_heldBytes 18 = .ok (.invokevirtual 40, 3) := by decide +kernel
theorem dX6_heldBytes_21 : decode cX6_heldBytes 21 = .ok (.getfield 63, 3) := by decide +kernel
theorem dX6_heldBytes_24 : decode cX6_heldBytes 24 = .ok (.iadd, 1) := by decide +kernel
theorem dX6_heldBytes_25 : decode cX6_heldBytes 25 = .ok (.istore_n 1, 1) := by decide +kernel
theorem dX6_heldBytes_26 : decode cX6_heldBytes 26 = .ok (.iinc 2 1, 3) := by decide +kernel
theorem dX6_heldBytes_29 : decode cX6_heldBytes 29 = .ok (.goto (-22), 3) := by decide +kernel
theorem dX6_heldBytes_32 : decode cX6_heldBytes 32 = .ok (.iload_n 1, 1) := by decide +kernel
theorem dX6_heldBytes_33 : decode cX6_heldBytes 33 = .ok (.ireturn, 1) := by decide +kernel
theorem dX6_countDown_0 : decode cX6_countDown 0 = .ok (.aload_n 0, 1) := by decide +kernel
theorem dX6_countDown_1 : decode cX6_countDown 1 = .ok (.getfield 60, 3) := by decide +kernel
theorem dX6_countDown_4 : decode cX6_countDown 4 = .ok (.ifCond .le 13, 3) := by decide +kernel
theorem dX6_countDown_7 : decode cX6_countDown 7 = .ok (.aload_n 0, 1) := by decide +kernel
theorem dX6_countDown_8 : decode cX6_countDown 8 = .ok (.dup, 1) := by decide +kernel
theorem dX6_countDown_9 : decode cX6_countDown 9 = .ok (.getfield 60, 3) := by decide +kernel
theorem dX6_countDown_12 : decode cX6_countDown 12 = .ok (.iconst 1, 1) := by decide +kernel
theorem dX6_countDown_13 : decode cX6_countDown 13 = .ok (.isub, 1) := by decide +kernel
theorem dX6_countDown_14 : decode cX6_countDown 14 = .ok (.putfield 60, 3) := by decide +kernel
theorem dX6_countDown_17 : decode cX6_countDown 17 = .ok (.aload_n 0, 1) := by decide +kernel
theorem dX6_countDown_18 : decode cX6_countDown 18 = .ok (.getfield 57, 3) := by decide +kernel
theorem dX6_countDown_21 : decode cX6_countDown 21 = .ok (.ifCond .le 24, 3) := by decide +kernel
theorem dX6_countDown_24 : decode cX6_countDown 24 = .ok (.aload_n 0, 1) := by decide +kernel
theorem dX6_countDown_25 : decode cX6_countDown 25 = .ok (.dup, 1) := by decide +kernel
theorem dX6_countDown_26 : decode cX6_countDown 26 = .ok (.getfield 57, 3) := by decide +kernel
theorem dX6_countDown_29 : decode cX6_countDown 29 = .ok (.iconst 1, 1) := by decide +kernel
theorem dX6_countDown_30 : decode cX6_countDown 30 = .ok (.isub, 1) := by decide +kernel
theorem dX6_countDown_31 : decode cX6_countDown 31 = .ok (.putfield 57, 3) := by decide +kernel
theorem dX6_countDown_34 : decode cX6_countDown 34 = .ok (.aload_n 0, 1) := by decide +kernel
theorem dX6_countDown_35 : decode cX6_countDown 35 = .ok (.getfield 57, 3) := by decide +kernel
theorem dX6_countDown_38 : decode cX6_countDown 38 = .ok (.ifCond .ne 7, 3) := by decide +kernel
theorem dX6_countDown_41 : decode cX6_countDown 41 = .ok (.aload_n 0, 1) := by decide +kernel
theorem dX6_countDown_42 : decode cX6_countDown 42 = .ok (.invokevirtual 66, 3) := by decide +kernel
theorem dX6_countDown_45 : decode cX6_countDown 45 = .ok (.return_, 1) := by decide +kernel
theorem dX6_giveUpAwaiting_0 : decode cX6_giveUpAwaiting 0 = .ok (.aload_n 0, 1) := by decide +kernel
theorem dX6_giveUpAwaiting_1 : decode cX6_giveUpAwaiting 1 = .ok (.aload_n 0, 1) := by decide +kernel
theorem dX6_giveUpAwaiting_2 : decode cX6_giveUpAwaiting 2 = .ok (.getfield 47, 3) := by decide +kernel
theorem dX6_giveUpAwaiting_5 : decode cX6_giveUpAwaiting 5 = .ok (.aload_n 0, 1) := by decide +kernel
theorem dX6_giveUpAwaiting_6 : decode cX6_giveUpAwaiting 6 = .ok (.getfield 50, 3) := by decide +kernel
theorem dX6_giveUpAwaiting_9 : decode cX6_giveUpAwaiting 9 = .ok (.invokestatic 69, 3) := by decide +kernel
theorem dX6_giveUpAwaiting_12 : decode cX6_giveUpAwaiting 12 = .ok (.putfield 47, 3) := by decide +kernel
theorem dX6_giveUpAwaiting_15 : decode cX6_giveUpAwaiting 15 = .ok (.aload_n 0, 1) := by decide +kernel
theorem dX6_giveUpAwaiting_16 : decode cX6_giveUpAwaiting 16 = .ok (.invokevirtual 75, 3) := by decide +kernel
theorem dX6_giveUpAwaiting_19 : decode cX6_giveUpAwaiting 19 = .ok (.aload_n 0, 1) := by decide +kernel
theorem dX6_giveUpAwaiting_20 : decode cX6_giveUpAwaiting 20 = .ok (.iconst 1, 1) := by decide +kernel
theorem dX6_giveUpAwaiting_21 : decode cX6_giveUpAwaiting 21 = .ok (.putfield 53, 3) := by decide +kernel
theorem dX6_giveUpAwaiting_24 : decode cX6_giveUpAwaiting 24 = .ok (.aload_n 0, 1) := by decide +kernel
theorem dX6_giveUpAwaiting_25 : decode cX6_giveUpAwaiting 25 = .ok (.invokevirtual 78, 3) := by decide +kernel
theorem dX6_giveUpAwaiting_28 : decode cX6_giveUpAwaiting 28 = .ok (.aload_n 0, 1) := by decide +kernel
theorem dX6_giveUpAwaiting_29 : decode cX6_giveUpAwaiting 29 = .ok (.getfield 37, 3) := by decide +kernel
theorem dX6_giveUpAwaiting_32 : decode cX6_giveUpAwaiting 32 = .ok (.aload_n 0, 1) := by decide +kernel
theorem dX6_giveUpAwaiting_33 : decode cX6_giveUpAwaiting 33 = .ok (.getfield 47, 3) := by decide +kernel
theorem dX6_giveUpAwaiting_36 : decode cX6_giveUpAwaiting 36 = .ok (.if_icmp .le 17, 3) := by decide +kernel
theorem dX6_giveUpAwaiting_39 : decode cX6_giveUpAwaiting 39 = .ok (.aload_n 0, 1) := by decide +kernel
theorem dX6_giveUpAwaiting_40 : decode cX6_giveUpAwaiting 40 = .ok (.bipush 6, 2) := by decide +kernel
theorem dX6_giveUpAwaiting_42 : decode cX6_giveUpAwaiting 42 = .ok (.putfield 57, 3) := by decide +kernel
theorem dX6_giveUpAwaiting_45 : decode cX6_giveUpAwaiting 45 = .ok (.aload_n 0, 1) := by decide +kernel
theorem dX6_giveUpAwaiting_46 : decode cX6_giveUpAwaiting 46 = .ok (.aload_n 0, 1) := by decide +kernel
theorem dX6_giveUpAwaiting_47 : decode cX6_giveUpAwaiting 47 = .ok (.getfield 37, 3) := by decide +kernel
theorem dX6_giveUpAwaiting_50 : decode cX6_giveUpAwaiting 50 = .ok (.putfield 50, 3) := by decide +kernel
theorem dX6_giveUpAwaiting_53 : decode cX6_giveUpAwaiting 53 = .ok (.return_, 1) := by decide +kernel
theorem dX6_takeBytes_0 : decode cX6_takeBytes 0 = .ok (.aload_n 0, 1) := by decide +kernel
theorem dX6_takeBytes_1 : decode cX6_takeBytes 1 = .ok (.dup, 1) := by decide +kernel
theorem dX6_takeBytes_2 : decode cX6_takeBytes 2 = .ok (.getfield 81, 3) := by decide +kernel
theorem dX6_takeBytes_5 : decode cX6_takeBytes 5 = .ok (.iconst 1, 1) := by decide +kernel
theorem dX6_takeBytes_6 : decode cX6_takeBytes 6 = .ok (.iadd, 1) := by decide +kernel
theorem dX6_takeBytes_7 : decode cX6_takeBytes 7 = .ok (.putfield 81, 3) := by decide +kernel
theorem dX6_takeBytes_10 : decode cX6_takeBytes 10 = .ok (.aload_n 1, 1) := by decide +kernel
theorem dX6_takeBytes_11 : decode cX6_takeBytes 11 = .ok (.iload_n 2, 1) := by decide +kernel
theorem dX6_takeBytes_12 : decode cX6_takeBytes 12 = .ok (.invokevirtual 84, 3) := by decide +kernel
theorem dX6_takeBytes_15 : decode cX6_takeBytes 15 = .ok (.istore 4, 2) := by decide +kernel
theorem dX6_takeBytes_17 : decode cX6_takeBytes 17 = .ok (.aload_n 0, 1) := by decide +kernel
theorem dX6_takeBytes_18 : decode cX6_takeBytes 18 = .ok (.getfield 34, 3) := by decide +kernel
theorem dX6_takeBytes_21 : decode cX6_takeBytes 21 = .ok (.aload_n 1, 1) := by decide +kernel
theorem dX6_takeBytes_22 : decode cX6_takeBytes 22 = .ok (.iload_n 2, 1) := by decide +kernel
theorem dX6_takeBytes_23 : decode cX6_takeBytes 23 = .ok (.iconst 1, 1) := by decide +kernel
theorem dX6_takeBytes_24 : decode cX6_takeBytes 24 = .ok (.iadd, 1) := by decide +kernel
theorem dX6_takeBytes_25 : decode cX6_takeBytes 25 = .ok (.invokevirtual 84, 3) := by decide +kernel
theorem dX6_takeBytes_28 : decode cX6_takeBytes 28 = .ok (.aload_n 0, 1) := by decide +kernel
theorem dX6_takeBytes_29 : decode cX6_takeBytes 29 = .ok (.getfield 34, 3) := by decide +kernel
theorem dX6_takeBytes_32 : decode cX6_takeBytes 32 = .ok (.isub, 1) := by decide +kernel
theorem dX6_takeBytes_33 : decode cX6_takeBytes 33 = .ok (.bipush 63, 2) := by decide +kernel
theorem dX6_takeBytes_35 : decode cX6_takeBytes 35 = .ok (.iand, 1) := by decide +kernel
theorem dX6_takeBytes_36 : decode cX6_takeBytes 36 = .ok (.iadd, 1) := by decide +kernel
theorem dX6_takeBytes_37 : decode cX6_takeBytes 37 = .ok (.istore 5, 2) := by decide +kernel
theorem dX6_takeBytes_39 : decode cX6_takeBytes 39 = .ok (.iload 5, 2) := by decide +kernel
theorem dX6_takeBytes_41 : decode cX6_takeBytes 41 = .ok (.aload_n 0, 1) := by decide +kernel
theorem dX6_takeBytes_42 : decode cX6_takeBytes 42 = .ok (.getfield 34, 3) := by decide +kernel
theorem dX6_takeBytes_45 : decode cX6_takeBytes 45 = .ok (.bipush 32, 2) := by decide +kernel
theorem dX6_takeBytes_47 : decode cX6_takeBytes 47 = .ok (.iadd, 1) := by decide +kernel
theorem dX6_takeBytes_48 : decode cX6_takeBytes 48 = .ok (.if_icmp .lt 39, 3) := by decide +kernel
theorem dX6_takeBytes_51 : decode cX6_takeBytes 51 = .ok (.aload_n 0, 1) := by decide +kernel
theorem dX6_takeBytes_52 : decode cX6_takeBytes 52 = .ok (.dup, 1) := by decide +kernel
theorem dX6_takeBytes_53 : decode cX6_takeBytes 53 = .ok (.getfield 90, 3) := by decide +kernel
theorem dX6_takeBytes_56 : decode cX6_takeBytes 56 = .ok (.iconst 1, 1) := by decide +kernel
theorem dX6_takeBytes_57 : decode cX6_takeBytes 57 = .ok (.iadd, 1) := by decide +kernel
theorem dX6_takeBytes_58 : decode cX6_takeBytes 58 = .ok (.putfield 90, 3) := by decide +kernel
theorem dX6_takeBytes_61 : decode cX6_takeBytes 61 = .ok (.aload_n 0, 1) := by decide +kernel
theorem dX6_takeBytes_62 : decode cX6_takeBytes 62 = .ok (.aload_n 0, 1) := by decide +kernel
theorem dX6_takeBytes_63 : decode cX6_takeBytes 63 = .ok (.getfield 53, 3) := by decide +kernel
theorem dX6_takeBytes_66 : decode cX6_takeBytes 66 = .ok (.ifCond .ne 11, 3) := by decide +kernel
theorem dX6_takeBytes_69 : decode cX6_takeBytes 69 = .ok (.iload 4, 2) := by decide +kernel
theorem dX6_takeBytes_71 : decode cX6_takeBytes 71 = .ok (.bipush 32, 2) := by decide +kernel
theorem dX6_takeBytes_73 : decode cX6_takeBytes 73 = .ok (.iand, 1) := by decide +kernel
theorem dX6_takeBytes_74 : decode cX6_takeBytes 74 = .ok (.ifCond .eq 7, 3) := by decide +kernel
theorem dX6_takeBytes_77 : decode cX6_takeBytes 77 = .ok (.iconst 1, 1) := by decide +kernel
theorem dX6_takeBytes_78 : decode cX6_takeBytes 78 = .ok (.goto 4, 3) := by decide +kernel
theorem dX6_takeBytes_81 : decode cX6_takeBytes 81 = .ok (.iconst 0, 1) := by decide +kernel
theorem dX6_takeBytes_82 : decode cX6_takeBytes 82 = .ok (.putfield 53, 3) := by decide +kernel
theorem dX6_takeBytes_85 : decode cX6_takeBytes 85 = .ok (.iconst (-1), 1) := by decide +kernel
theorem dX6_takeBytes_86 : decode cX6_takeBytes 86 = .ok (.ireturn, 1) := by decide +kernel
theorem dX6_takeBytes_87 : decode cX6_takeBytes 87 = .ok (.aload_n 0, 1) := by decide +kernel
theorem dX6_takeBytes_88 : decode cX6_takeBytes 88 = .ok (.iload 5, 2) := by decide +kernel
theorem dX6_takeBytes_90 : decode cX6_takeBytes 90 = .ok (.invokevirtual 40, 3) := by decide +kernel
theorem dX6_takeBytes_93 : decode cX6_takeBytes 93 = .ok (.astore 6, 2) := by decide +kernel
theorem dX6_takeBytes_95 : decode cX6_takeBytes 95 = .ok (.iload 4, 2) := by decide +kernel
theorem dX6_takeBytes_97 : decode cX6_takeBytes 97 = .ok (.bipush 64, 2) := by decide +kernel
theorem dX6_takeBytes_99 : decode cX6_takeBytes 99 = .ok (.iand, 1) := by decide +kernel
theorem dX6_takeBytes_100 : decode cX6_takeBytes 100 = .ok (.ifCond .eq 7, 3) := by decide +kernel
theorem dX6_takeBytes_103 : decode cX6_takeBytes 103 = .ok (.iconst 1, 1) := by decide +kernel
theorem dX6_takeBytes_104 : decode cX6_takeBytes 104 = .ok (.goto 4, 3) := by decide +kernel
theorem dX6_takeBytes_107 : decode cX6_takeBytes 107 = .ok (.iconst 0, 1) := by decide +kernel
theorem dX6_takeBytes_108 : decode cX6_takeBytes 108 = .ok (.istore 7, 2) := by decide +kernel
theorem dX6_takeBytes_110 : decode cX6_takeBytes 110 = .ok (.iload 7, 2) := by decide +kernel
theorem dX6_takeBytes_112 : decode cX6_takeBytes 112 = .ok (.ifCond .eq 13, 3) := by decide +kernel
theorem dX6_takeBytes_115 : decode cX6_takeBytes 115 = .ok (.aload_n 1, 1) := by decide +kernel
theorem dX6_takeBytes_116 : decode cX6_takeBytes 116 = .ok (.iload_n 2, 1) := by decide +kernel
theorem dX6_takeBytes_117 : decode cX6_takeBytes 117 = .ok (.iconst 2, 1) := by decide +kernel
theorem dX6_takeBytes_118 : decode cX6_takeBytes 118 = .ok (.iadd, 1) := by decide +kernel
theorem dX6_takeBytes_119 : decode cX6_takeBytes 119 = .ok (.invokevirtual 84, 3) := by decide +kernel
theorem dX6_takeBytes_122 : decode cX6_takeBytes 122 = .ok (.goto 4, 3) := by decide +kernel
theorem dX6_takeBytes_125 : decode cX6_takeBytes 125 = .ok (.iconst 0, 1) := by decide +kernel
theorem dX6_takeBytes_126 : decode cX6_takeBytes 126 = .ok (.istore 8, 2) := by decide +kernel
theorem dX6_takeBytes_128 : decode cX6_takeBytes 128 = .ok (.iload_n 2, 1) := by decide +kernel
theorem dX6_takeBytes_129 : decode cX6_takeBytes 129 = .ok (.iload 7, 2) := by decide +kernel
theorem dX6_takeBytes_131 : decode cX6_takeBytes 131 = .ok (.ifCond .eq 7, 3) := by decide +kernel
theorem dX6_takeBytes_134 : decode cX6_takeBytes 134 = .ok (.iconst 3, 1) := by decide +kernel
theorem dX6_takeBytes_135 : decode cX6_takeBytes 135 = .ok (.goto 4, 3) := by decide +kernel
theorem dX6_takeBytes_138 : decode cX6_takeBytes 138 = .ok (.iconst 2, 1) := by decide +kernel
theorem dX6_takeBytes_139 : decode cX6_takeBytes 139 = .ok (.iadd, 1) := by decide +kernel
theorem dX6_takeBytes_140 : decode cX6_takeBytes 140 = .ok (.istore 9, 2) := by decide +kernel
theorem dX6_takeBytes_142 : decode cX6_takeBytes 142 = .ok (.aload 6, 2) := by decide +kernel
theorem dX6_takeBytes_144 : decode cX6_takeBytes 144 = .ok (.getfield 63, 3) := by decide +kernel
theorem dX6_takeBytes_147 : decode cX6_takeBytes 147 = .ok (.istore 10, 2) := by decide +kernel
theorem dX6_takeBytes_149 : decode cX6_takeBytes 149 = .ok (.aload_n 0, 1) := by decide +kernel
theorem dX6_takeBytes_150 : decode cX6_takeBytes 150 = .ok (.aload 6, 2) := by decide +kernel
theorem dX6_takeBytes_152 : decode cX6_takeBytes 152 = .ok (.iload 8, 2) := by decide +kernel
theorem dX6_takeBytes_154 : decode cX6_takeBytes 154 = .ok (.aload_n 1, 1) := by decide +kernel
theorem dX6_takeBytes_155 : decode cX6_takeBytes 155 = .ok (.iload 9, 2) := by decide +kernel
theorem dX6_takeBytes_157 : decode cX6_takeBytes 157 = .ok (.iload_n 3, 1) := by decide +kernel
theorem dX6_takeBytes_158 : decode cX6_takeBytes 158 = .ok (.iload 4, 2) := by decide +kernel
theorem dX6_takeBytes_160 : decode cX6_takeBytes 160 = .ok (.invokevirtual 93, 3) := by decide +kernel
theorem dX6_takeBytes_163 : decode cX6_takeBytes 163 = .ok (.istore 11, 2) := by decide +kernel
theorem dX6_takeBytes_165 : decode cX6_takeBytes 165 = .ok (.iload 7, 2) := by decide +kernel
theorem dX6_takeBytes_167 : decode cX6_takeBytes 167 = .ok (.ifCond .eq 17, 3) := by decide +kernel
theorem dX6_takeBytes_170 : decode cX6_takeBytes 170 = .ok (.aload_n 1, 1) := by decide +kernel
theorem dX6_takeBytes_171 : decode cX6_takeBytes 171 = .ok (.iload_n 2, 1) := by decide +kernel
theorem dX6_takeBytes_172 : decode cX6_takeBytes 172 = .ok (.iconst 1, 1) := by decide +kernel
theorem dX6_takeBytes_173 : decode cX6_takeBytes 173 = .ok (.iadd, 1) := by decide +kernel
theorem dX6_takeBytes_174 : decode cX6_takeBytes 174 = .ok (.invokevirtual 84, 3) := by decide +kernel
theorem dX6_takeBytes_177 : decode cX6_takeBytes 177 = .ok (.sipush 128, 3) := by decide +kernel
theorem dX6_takeBytes_180 : decode cX6_takeBytes 180 = .ok (.iand, 1) := by decide +kernel
theorem dX6_takeBytes_181 : decode cX6_takeBytes 181 = .ok (.ifCond .eq 16, 3) := by decide +kernel
theorem dX6_takeBytes_184 : decode cX6_takeBytes 184 = .ok (.aload 6, 2) := by decide +kernel
theorem dX6_takeBytes_186 : decode cX6_takeBytes 186 = .ok (.iload 11, 2) := by decide +kernel
theorem dX6_takeBytes_188 : decode cX6_takeBytes 188 = .ok (.sipush 240, 3) := by decide +kernel
theorem dX6_takeBytes_191 : decode cX6_takeBytes 191 = .ok (.invokestatic 97, 3) := by decide +kernel
theorem dX6_takeBytes_194 : decode cX6_takeBytes 194 = .ok (.putfield 31, 3) := by decide +kernel
theorem dX6_takeBytes_197 : decode cX6_takeBytes 197 = .ok (.aload 6, 2) := by decide +kernel
theorem dX6_takeBytes_199 : decode cX6_takeBytes 199 = .ok (.getfield 63, 3) := by decide +kernel
theorem dX6_takeBytes_202 : decode cX6_takeBytes 202 = .ok (.iload 10, 2) := by decide +kernel
theorem dX6_takeBytes_204 : decode cX6_takeBytes 204 = .ok (.if_icmp .ne 13, 3) := by decide +kernel
theorem dX6_takeBytes_207 : decode cX6_takeBytes 207 = .ok (.aload_n 0, 1) := by decide +kernel
theorem dX6_takeBytes_208 : decode cX6_takeBytes 208 = .ok (.dup, 1) := by decide +kernel
theorem dX6_takeBytes_209 : decode cX6_takeBytes 209 = .ok (.getfield 90, 3) := by decide +kernel
theorem dX6_takeBytes_212 : decode cX6_takeBytes 212 = .ok (.iconst 1, 1) := by decide +kernel
theorem dX6_takeBytes_213 : decode cX6_takeBytes 213 = .ok (.iadd, 1) := by decide +kernel
theorem dX6_takeBytes_214 : decode cX6_takeBytes 214 = .ok (.putfield 90, 3) := by decide +kernel
theorem dX6_takeBytes_217 : decode cX6_takeBytes 217 = .ok (.aload_n 0, 1) := by decide +kernel
theorem dX6_takeBytes_218 : decode cX6_takeBytes 218 = .ok (.aload_n 0, 1) := by decide +kernel
theorem dX6_takeBytes_219 : decode cX6_takeBytes 219 = .ok (.getfield 37, 3) := by decide +kernel
theorem dX6_takeBytes_222 : decode cX6_takeBytes 222 = .ok (.iload 5, 2) := by decide +kernel
theorem dX6_takeBytes_224 : decode cX6_takeBytes 224 = .ok (.iconst 1, 1) := by decide +kernel
theorem dX6_takeBytes_225 : decode cX6_takeBytes 225 = .ok (.iadd, 1) := by decide +kernel
theorem dX6_takeBytes_226 : decode cX6_takeBytes 226 = .ok (.invokestatic 69, 3) := by decide +kernel
theorem dX6_takeBytes_229 : decode cX6_takeBytes 229 = .ok (.putfield 37, 3) := by decide +kernel
theorem dX6_takeBytes_232 : decode cX6_takeBytes 232 = .ok (.iload 5, 2) := by decide +kernel
theorem dX6_takeBytes_234 : decode cX6_takeBytes 234 = .ok (.ireturn, 1) := by decide +kernel
theorem dX6_takeCells_0 : decode cX6_takeCells 0 = .ok (.iload 6, 2) := by decide +kernel
theorem dX6_takeCells_2 : decode cX6_takeCells 2 = .ok (.iconst 4, 1) := by decide +kernel
theorem dX6_takeCells_3 : decode cX6_takeCells 3 = .ok (.iand, 1) := by decide +kernel
theorem dX6_takeCells_4 : decode cX6_takeCells 4 = .ok (.ifCond .eq 12, 3) := by decide +kernel
theorem dX6_takeCells_7 : decode cX6_takeCells 7 = .ok (.aload_n 3, 1) := by decide +kernel
theorem dX6_takeCells_8 : decode cX6_takeCells 8 = .ok (.iload 4, 2) := by decide +kernel
theorem dX6_takeCells_10 : decode cX6_takeCells 10 = .ok (.invokestatic 100, 3) := by decide +kernel
theorem dX6_takeCells_13 : decode cX6_takeCells 13 = .ok (.goto 4, 3) := by decide +kernel
theorem dX6_takeCells_16 : decode cX6_takeCells 16 = .ok (.iconst 0, 1) := by decide +kernel
theorem dX6_takeCells_17 : decode cX6_takeCells 17 = .ok (.istore 7, 2) := by decide +kernel
theorem dX6_takeCells_19 : decode cX6_takeCells 19 = .ok (.iload 4, 2) := by decide +kernel
theorem dX6_takeCells_21 : decode cX6_takeCells 21 = .ok (.iload 7, 2) := by decide +kernel
theorem dX6_takeCells_23 : decode cX6_takeCells 23 = .ok (.iadd, 1) := by decide +kernel
theorem dX6_takeCells_24 : decode cX6_takeCells 24 = .ok (.istore 8, 2) := by decide +kernel
theorem dX6_takeCells_26 : decode cX6_takeCells 26 = .ok (.iload 4, 2) := by decide +kernel
theorem dX6_takeCells_28 : decode cX6_takeCells 28 = .ok (.istore 9, 2) := by decide +kernel
theorem dX6_takeCells_30 : decode cX6_takeCells 30 = .ok (.iload 8, 2) := by decide +kernel
theorem dX6_takeCells_32 : decode cX6_takeCells 32 = .ok (.istore 10, 2) := by decide +kernel
theorem dX6_takeCells_34 : decode cX6_takeCells 34 = .ok (.iload 6, 2) := by decide +kernel
theorem dX6_takeCells_36 : decode cX6_takeCells 36 = .ok (.bipush 16, 2) := by decide +kernel
theorem dX6_takeCells_38 : decode cX6_takeCells 38 = .ok (.iand, 1) := by decide +kernel
theorem dX6_takeCells_39 : decode cX6_takeCells 39 = .ok (.ifCond .ne 7, 3) := by decide +kernel
theorem dX6_takeCells_42 : decode cX6_takeCells 42 = .ok (.iconst 1, 1) := by decide +kernel
theorem dX6_takeCells_43 : decode cX6_takeCells 43 = .ok (.goto 4, 3) := by decide +kernel
theorem dX6_takeCells_46 : decode cX6_takeCells 46 = .ok (.iconst 0, 1) := by decide +kernel
theorem dX6_takeCells_47 : decode cX6_takeCells 47 = .ok (.istore 11, 2) := by decide +kernel
theorem dX6_takeCells_49 : decode cX6_takeCells 49 = .ok (.iload 8, 2) := by decide +kernel
theorem dX6_takeCells_51 : decode cX6_takeCells 51 = .ok (.istore 12, 2) := by decide +kernel
theorem dX6_takeCells_53 : decode cX6_takeCells 53 = .ok (.iload 12, 2) := by decide +kernel
theorem dX6_takeCells_55 : decode cX6_takeCells 55 = .ok (.iload 5, 2) := by decide +kernel
theorem dX6_takeCells_57 : decode cX6_takeCells 57 = .ok (.if_icmp .ge 118, 3) := by decide +kernel
theorem dX6_takeCells_60 : decode cX6_takeCells 60 = .ok (.iload 12, 2) := by decide +kernel
theorem dX6_takeCells_62 : decode cX6_takeCells 62 = .ok (.iload 5, 2) := by decide +kernel
theorem dX6_takeCells_64 : decode cX6_takeCells 64 = .ok (.iconst 1, 1) := by decide +kernel
theorem dX6_takeCells_65 : decode cX6_takeCells 65 = .ok (.isub, 1) := by decide +kernel
theorem dX6_takeCells_66 : decode cX6_takeCells 66 = .ok (.if_icmp .ne 15, 3) := by decide +kernel
theorem dX6_takeCells_69 : decode cX6_takeCells 69 = .ok (.iload 6, 2) := by decide +kernel
theorem dX6_takeCells_71 : decode cX6_takeCells 71 = .ok (.bipush 8, 2) := by decide +kernel
theorem dX6_takeCells_73 : decode cX6_takeCells 73 = .ok (.iand, 1) := by decide +kernel
theorem dX6_takeCells_74 : decode cX6_takeCells 74 = .ok (.ifCond .ne 7, 3) := by decide +kernel
theorem dX6_takeCells_77 : decode cX6_takeCells 77 = .ok (.iconst 1, 1) := by decide +kernel
theorem dX6_takeCells_78 : decode cX6_takeCells 78 = .ok (.goto 4, 3) := by decide +kernel
theorem dX6_takeCells_81 : decode cX6_takeCells 81 = .ok (.iconst 0, 1) := by decide +kernel
theorem dX6_takeCells_82 : decode cX6_takeCells 82 = .ok (.istore 13, 2) := by decide +kernel
theorem dX6_takeCells_84 : decode cX6_takeCells 84 = .ok (.iload 9, 2) := by decide +kernel
theorem dX6_takeCells_86 : decode cX6_takeCells 86 = .ok (.iload 8, 2) := by decide +kernel
theorem dX6_takeCells_88 : decode cX6_takeCells 88 = .ok (.if_icmp .ge 34, 3) := by decide +kernel
theorem dX6_takeCells_91 : decode cX6_takeCells 91 = .ok (.iload 12, 2) := by decide +kernel
theorem dX6_takeCells_93 : decode cX6_takeCells 93 = .ok (.iconst 1, 1) := by decide +kernel
theorem dX6_takeCells_94 : decode cX6_takeCells 94 = .ok (.iadd, 1) := by decide +kernel
theorem dX6_takeCells_95 : decode cX6_takeCells 95 = .ok (.iload 10, 2) := by decide +kernel
theorem dX6_takeCells_97 : decode cX6_takeCells 97 = .ok (.isub, 1) := by decide +kernel
theorem dX6_takeCells_98 : decode cX6_takeCells 98 = .ok (.aload_n 3, 1) := by decide +kernel
theorem dX6_takeCells_99 : decode cX6_takeCells 99 = .ok (.iload 9, 2) := by decide +kernel
theorem dX6_takeCells_101 : decode cX6_takeCells 101 = .ok (.invokevirtual 84, 3) := by decide +kernel
theorem dX6_takeCells_104 : decode cX6_takeCells 104 = .ok (.bipush 127, 2) := by decide +kernel
theorem dX6_takeCells_106 : decode cX6_takeCells 106 = .ok (.iand, 1) := by decide +kernel
theorem dX6_takeCells_107 : decode cX6_takeCells 107 = .ok (.if_icmp .ne 15, 3) := by decide +kernel
theorem dX6_takeCells_110 : decode cX6_takeCells 110 = .ok (.iconst 1, 1) := by decide +kernel
theorem dX6_takeCells_111 : decode cX6_takeCells 111 = .ok (.istore 13, 2) := by decide +kernel
theorem dX6_takeCells_113 : decode cX6_takeCells 113 = .ok (.iinc 9 1, 3) := by decide +kernel
theorem dX6_takeCells_116 : decode cX6_takeCells 116 = .ok (.iload 12, 2) := by decide +kernel
theorem dX6_takeCells_118 : decode cX6_takeCells 118 = .ok (.iconst 1, 1) := by decide +kernel
theorem dX6_takeCells_119 : decode cX6_takeCells 119 = .ok (.iadd, 1) := by decide +kernel
theorem dX6_takeCells_120 : decode cX6_takeCells 120 = .ok (.istore 10, 2) := by decide +kernel
theorem dX6_takeCells_122 : decode cX6_takeCells 122 = .ok (.aload_n 1, 1) := by decide +kernel
theorem dX6_takeCells_123 : decode cX6_takeCells 123 = .ok (.iload_n 2, 1) := by decide +kernel
theorem dX6_takeCells_124 : decode cX6_takeCells 124 = .ok (.iload 12, 2) := by decide +kernel
theorem dX6_takeCells_126 : decode cX6_takeCells 126 = .ok (.iadd, 1) := by decide +kernel
theorem dX6_takeCells_127 : decode cX6_takeCells 127 = .ok (.iload 8, 2) := by decide +kernel
theorem dX6_takeCells_129 : decode cX6_takeCells 129 = .ok (.isub, 1) := by decide +kernel
theorem dX6_takeCells_130 : decode cX6_takeCells 130 = .ok (.aload_n 3, 1) := by decide +kernel
theorem dX6_takeCells_131 : decode cX6_takeCells 131 = .ok (.iload 12, 2) := by decide +kernel
theorem dX6_takeCells_133 : decode cX6_takeCells 133 = .ok (.invokevirtual 84, 3) := by decide +kernel
theorem dX6_takeCells_136 : decode cX6_takeCells 136 = .ok (.iload 11, 2) := by decide +kernel
theorem dX6_takeCells_138 : decode cX6_takeCells 138 = .ok (.ifCond .eq 9, 3) := by decide +kernel
theorem dX6_takeCells_141 : decode cX6_takeCells 141 = .ok (.sipush 256, 3) := by decide +kernel
theorem dX6_takeCells_144 : decode cX6_takeCells 144 = .ok (.goto 4, 3) := by decide +kernel
theorem dX6_takeCells_147 : decode cX6_takeCells 147 = .ok (.iconst 0, 1) := by decide +kernel
theorem dX6_takeCells_148 : decode cX6_takeCells 148 = .ok (.iadd, 1) := by decide +kernel
theorem dX6_takeCells_149 : decode cX6_takeCells 149 = .ok (.iload 13, 2) := by decide +kernel
theorem dX6_takeCells_151 : decode cX6_takeCells 151 = .ok (.ifCond .eq 9, 3) := by decide +kernel
theorem dX6_takeCells_154 : decode cX6_takeCells 154 = .ok (.sipush 512, 3) := by decide +kernel
theorem dX6_takeCells_157 : decode cX6_takeCells 157 = .ok (.goto 4, 3) := by decide +kernel
theorem dX6_takeCells_160 : decode cX6_takeCells 160 = .ok (.iconst 0, 1) := by decide +kernel
theorem dX6_takeCells_161 : decode cX6_takeCells 161 = .ok (.iadd, 1) := by decide +kernel
theorem dX6_takeCells_162 : decode cX6_takeCells 162 = .ok (.invokevirtual 104, 3) := by decide +kernel
theorem dX6_takeCells_165 : decode cX6_takeCells 165 = .ok (.iload 13, 2) := by decide +kernel
theorem dX6_takeCells_167 : decode cX6_takeCells 167 = .ok (.istore 11, 2) := by decide +kernel
theorem dX6_takeCells_169 : decode cX6_takeCells 169 = .ok (.iinc 12 1, 3) := by decide +kernel
theorem dX6_takeCells_172 : decode cX6_takeCells 172 = .ok (.goto (-119), 3) := by decide +kernel
theorem dX6_takeCells_175 : decode cX6_takeCells 175 = .ok (.iload_n 2, 1) := by decide +kernel
theorem dX6_takeCells_176 : decode cX6_takeCells 176 = .ok (.iload 5, 2) := by decide +kernel
theorem dX6_takeCells_178 : decode cX6_takeCells 178 = .ok (.iadd, 1) := by decide +kernel
theorem dX6_takeCells_179 : decode cX6_takeCells 179 = .ok (.iload 8, 2) := by decide +kernel
theorem dX6_takeCells_181 : decode cX6_takeCells 181 = .ok (.isub, 1) := by decide +kernel
theorem dX6_takeCells_182 : decode cX6_takeCells 182 = .ok (.ireturn, 1) := by decide +kernel
theorem dX6_countLengths_0 : decode cX6_countLengths 0 = .ok (.iconst 1, 1) := by decide +kernel
theorem dX6_countLengths_1 : decode cX6_countLengths 1 = .ok (.istore_n 2, 1) := by decide +kernel
theorem dX6_countLengths_2 : decode cX6_countLengths 2 = .ok (.iload_n 1, 1) := by decide +kernel
theorem dX6_countLengths_3 : decode cX6_countLengths 3 = .ok (.istore_n 3, 1) := by decide +kernel
theorem dX6_countLengths_4 : decode cX6_countLengths 4 = .ok (.iload_n 3, 1) := by decide +kernel
theorem dX6_countLengths_5 : decode cX6_countLengths 5 = .ok (.aload_n 0, 1) := by decide +kernel
theorem dX6_countLengths_6 : decode cX6_countLengths 6 = .ok (.getfield 108, 3) := by decide +kernel
theorem dX6_countLengths_9 : decode cX6_countLengths 9 = .ok (.if_icmp .ge 24, 3) := by decide +kernel
theorem dX6_countLengths_12 : decode cX6_countLengths 12 = .ok (.aload_n 0, 1) := by decide +kernel
theorem dX6_countLengths_13 : decode cX6_countLengths 13 = .ok (.iload_n 3, 1) := by decide +kernel
theorem dX6_countLengths_14 : decode cX6_countLengths 14 = .ok (.invokevirtual 84, 3) := by decide +kernel
theorem dX6_countLengths_17 : decode cX6_countLengths 17 = .ok (.sipush 128, 3) := by decide +kernel
theorem dX6_countLengths_20 : decode cX6_countLengths 20 = .ok (.iand, 1) := by decide +kernel
theorem dX6_countLengths_21 : decode cX6_countLengths 21 = .ok (.ifCond .eq 12, 3) := by decide +kernel
theorem dX6_countLengths_24 : decode cX6_countLengths 24 = .ok (.iinc 2 1, 3) := by decide +kernel
theorem dX6_countLengths_27 : decode cX6_countLengths 27 = .ok (.iinc 3 1, 3) := by decide +kernel
theorem dX6_countLengths_30 : decode cX6_countLengths 30 = .ok (.goto (-26), 3) := by decide +kernel
theorem dX6_countLengths_33 : decode cX6_countLengths 33 = .ok (.iload_n 2, 1) := by decide +kernel
theorem dX6_countLengths_34 : decode cX6_countLengths 34 = .ok (.ireturn, 1) := by decide +kernel
theorem dX6_raiseTold_0 : decode cX6_raiseTold 0 = .ok (.iconst 0, 1) := by decide +kernel
theorem dX6_raiseTold_1 : decode cX6_raiseTold 1 = .ok (.istore_n 1, 1) := by decide +kernel
theorem dX6_raiseTold_2 : decode cX6_raiseTold 2 = .ok (.iload_n 1, 1) := by decide +kernel
theorem dX6_raiseTold_3 : decode cX6_raiseTold 3 = .ok (.bipush 32, 2) := by decide +kernel
theorem dX6_raiseTold_5 : decode cX6_raiseTold 5 = .ok (.if_icmp .ge 30, 3) := by decide +kernel
theorem dX6_raiseTold_8 : decode cX6_raiseTold 8 = .ok (.aload_n 0, 1) := by decide +kernel
theorem dX6_raiseTold_9 : decode cX6_raiseTold 9 = .ok (.aload_n 0, 1) := by decide +kernel
theorem dX6_raiseTold_10 : decode cX6_raiseTold 10 = .ok (.getfield 47, 3) := by decide +kernel
theorem dX6_raiseTold_13 : decode cX6_raiseTold 13 = .ok (.invokevirtual 109, 3) := by decide +kernel
theorem dX6_raiseTold_16 : decode cX6_raiseTold 16 = .ok (.ifCond .eq 19, 3) := by decide +kernel
theorem dX6_raiseTold_19 : decode cX6_raiseTold 19 = .ok (.aload_n 0, 1) := by decide +kernel
theorem dX6_raiseTold_20 : decode cX6_raiseTold 20 = .ok (.dup, 1) := by decide +kernel
theorem dX6_raiseTold_21 : decode cX6_raiseTold 21 = .ok (.getfield 47, 3) := by decide +kernel
theorem dX6_raiseTold_24 : decode cX6_raiseTold 24 = .ok (.iconst 1, 1) := by decide +kernel
theorem dX6_raiseTold_25 : decode cX6_raiseTold 25 = .ok (.iadd, 1) := by decide +kernel
theorem dX6_raiseTold_26 : decode cX6_raiseTold 26 = .ok (.putfield 47, 3) := by decide +kernel
theorem dX6_raiseTold_29 : decode cX6_raiseTold 29 = .ok (.iinc 1 1, 3) := by decide +kernel
theorem dX6_raiseTold_32 : decode cX6_raiseTold 32 = .ok (.goto (-30), 3) := by decide +kernel
theorem dX6_raiseTold_35 : decode cX6_raiseTold 35 = .ok (.return_, 1) := by decide +kernel
theorem dX6_passLow_0 : decode cX6_passLow 0 = .ok (.aload_n 0, 1) := by decide +kernel
theorem dX6_passLow_1 : decode cX6_passLow 1 = .ok (.aload_n 0, 1) := by decide +kernel
theorem dX6_passLow_2 : decode cX6_passLow 2 = .ok (.getfield 34, 3) := by decide +kernel
theorem dX6_passLow_5 : decode cX6_passLow 5 = .ok (.invokevirtual 40, 3) := by decide +kernel
theorem dX6_passLow_8 : decode cX6_passLow 8 = .ok (.iconst (-1), 1) := by decide +kernel
theorem dX6_passLow_9 : decode cX6_passLow 9 = .ok (.invokevirtual 44, 3) := by decide +kernel
theorem dX6_passLow_12 : decode cX6_passLow 12 = .ok (.aload_n 0, 1) := by decide +kernel
theorem dX6_passLow_13 : decode cX6_passLow 13 = .ok (.dup, 1) := by decide +kernel
theorem dX6_passLow_14 : decode cX6_passLow 14 = .ok (.getfield 34, 3) := by decide +kernel
theorem dX6_passLow_17 : decode cX6_passLow 17 = .ok (.iconst 1, 1) := by decide +kernel
theorem dX6_passLow_18 : decode cX6_passLow 18 = .ok (.iadd, 1) := by decide +kernel
theorem dX6_passLow_19 : decode cX6_passLow 19 = .ok (.putfield 34, 3) := by decide +kernel
theorem dX6_passLow_22 : decode cX6_passLow 22 = .ok (.aload_n 0, 1) := by decide +kernel
theorem dX6_passLow_23 : decode cX6_passLow 23 = .ok (.aload_n 0, 1) := by decide +kernel
theorem dX6_passLow_24 : decode cX6_passLow 24 = .ok (.getfield 47, 3) := by decide +kernel
theorem dX6_passLow_27 : decode cX6_passLow 27 = .ok (.aload_n 0, 1) := by decide +kernel
theorem dX6_passLow_28 : decode cX6_passLow 28 = .ok (.getfield 34, 3) := by decide +kernel
theorem dX6_passLow_31 : decode cX6_passLow 31 = .ok (.invokestatic 69, 3) := by decide +kernel
theorem dX6_passLow_34 : decode cX6_passLow 34 = .ok (.putfield 47, 3) := by decide +kernel
theorem dX6_passLow_37 : decode cX6_passLow 37 = .ok (.return_, 1) := by decide +kernel
theorem dX6_settle_0 : decode cX6_settle 0 = .ok (.aload_n 0, 1) := by decide +kernel
theorem dX6_settle_1 : decode cX6_settle 1 = .ok (.invokevirtual 78, 3) := by decide +kernel
theorem dX6_settle_4 : decode cX6_settle 4 = .ok (.aload_n 0, 1) := by decide +kernel
theorem dX6_settle_5 : decode cX6_settle 5 = .ok (.getfield 57, 3) := by decide +kernel
theorem dX6_settle_8 : decode cX6_settle 8 = .ok (.ifCond .le 19, 3) := by decide +kernel
theorem dX6_settle_11 : decode cX6_settle 11 = .ok (.aload_n 0, 1) := by decide +kernel
theorem dX6_settle_12 : decode cX6_settle 12 = .ok (.getfield 50, 3) := by decide +kernel
theorem dX6_settle_15 : decode cX6_settle 15 = .ok (.aload_n 0, 1) := by decide +kernel
theorem dX6_settle_16 : decode cX6_settle 16 = .ok (.getfield 34, 3) := by decide +kernel
theorem dX6_settle_19 : decode cX6_settle 19 = .ok (.if_icmp .gt 8, 3) := by decide +kernel
theorem dX6_settle_22 : decode cX6_settle 22 = .ok (.aload_n 0, 1) := by decide +kernel
theorem dX6_settle_23 : decode cX6_settle 23 = .ok (.iconst 0, 1) := by decide +kernel
theorem dX6_settle_24 : decode cX6_settle 24 = .ok (.putfield 57, 3) := by decide +kernel
theorem dX6_settle_27 : decode cX6_settle 27 = .ok (.aload_n 0, 1) := by decide +kernel
theorem dX6_settle_28 : decode cX6_settle 28 = .ok (.getfield 57, 3) := by decide +kernel
theorem dX6_settle_31 : decode cX6_settle 31 = .ok (.ifCond .ne 28, 3) := by decide +kernel
theorem dX6_settle_34 : decode cX6_settle 34 = .ok (.aload_n 0, 1) := by decide +kernel
theorem dX6_settle_35 : decode cX6_settle 35 = .ok (.getfield 37, 3) := by decide +kernel
theorem dX6_settle_38 : decode cX6_settle 38 = .ok (.aload_n 0, 1) := by decide +kernel
theorem dX6_settle_39 : decode cX6_settle 39 = .ok (.getfield 34, 3) := by decide +kernel
theorem dX6_settle_42 : decode cX6_settle 42 = .ok (.if_icmp .le 17, 3) := by decide +kernel
theorem dX6_settle_45 : decode cX6_settle 45 = .ok (.aload_n 0, 1) := by decide +kernel
theorem dX6_settle_46 : decode cX6_settle 46 = .ok (.bipush 6, 2) := by decide +kernel
theorem dX6_settle_48 : decode cX6_settle 48 = .ok (.putfield 57, 3) := by decide +kernel
theorem dX6_settle_51 : decode cX6_settle 51 = .ok (.aload_n 0, 1) := by decide +kernel
theorem dX6_settle_52 : decode cX6_settle 52 = .ok (.aload_n 0, 1) := by decide +kernel
theorem dX6_settle_53 : decode cX6_settle 53 = .ok (.getfield 37, 3) := by decide +kernel
theorem dX6_settle_56 : decode cX6_settle 56 = .ok (.putfield 50, 3) := by decide +kernel
theorem dX6_settle_59 : decode cX6_settle 59 = .ok (.iload_n 2, 1) := by decide +kernel
theorem dX6_settle_60 : decode cX6_settle 60 = .ok (.ifCond .eq 12, 3) := by decide +kernel
theorem dX6_settle_63 : decode cX6_settle 63 = .ok (.aload_n 0, 1) := by decide +kernel
theorem dX6_settle_64 : decode cX6_settle 64 = .ok (.iload_n 1, 1) := by decide +kernel
theorem dX6_settle_65 : decode cX6_settle 65 = .ok (.putfield 17, 3) := by decide +kernel
theorem dX6_settle_68 : decode cX6_settle 68 = .ok (.aload_n 0, 1) := by decide +kernel
theorem dX6_settle_69 : decode cX6_settle 69 = .ok (.invokevirtual 78, 3) := by decide +kernel
theorem dX6_settle_72 : decode cX6_settle 72 = .ok (.return_, 1) := by decide +kernel
theorem dX6_answerPolls_0 : decode cX6_answerPolls 0 = .ok (.aload_n 0, 1) := by decide +kernel
theorem dX6_answerPolls_1 : decode cX6_answerPolls 1 = .ok (.getfield 17, 3) := by decide +kernel
theorem dX6_answerPolls_4 : decode cX6_answerPolls 4 = .ok (.iconst (-1), 1) := by decide +kernel
theorem dX6_answerPolls_5 : decode cX6_answerPolls 5 = .ok (.if_icmp .eq 24, 3) := by decide +kernel
theorem dX6_answerPolls_8 : decode cX6_answerPolls 8 = .ok (.aload_n 0, 1) := by decide +kernel
theorem dX6_answerPolls_9 : decode cX6_answerPolls 9 = .ok (.getfield 17, 3) := by decide +kernel
theorem dX6_answerPolls_12 : decode cX6_answerPolls 12 = .ok (.aload_n 0, 1) := by decide +kernel
theorem dX6_answerPolls_13 : decode cX6_answerPolls 13 = .ok (.getfield 47, 3) := by decide +kernel
theorem dX6_answerPolls_16 : decode cX6_answerPolls 16 = .ok (.if_icmp .ge 13, 3) := by decide +kernel
theorem dX6_answerPolls_19 : decode cX6_answerPolls 19 = .ok (.aload_n 0, 1) := by decide +kernel
theorem dX6_answerPolls_20 : decode cX6_answerPolls 20 = .ok (.iconst 1, 1) := by decide +kernel
theorem dX6_answerPolls_21 : decode cX6_answerPolls 21 = .ok (.putfield 53, 3) := by decide +kernel
theorem dX6_answerPolls_24 : decode cX6_answerPolls 24 = .ok (.aload_n 0, 1) := by decide +kernel
theorem dX6_answerPolls_25 : decode cX6_answerPolls 25 = .ok (.iconst (-1), 1) := by decide +kernel
theorem dX6_answerPolls_26 : decode cX6_answerPolls 26 = .ok (.putfield 17, 3) := by decide +kernel
theorem dX6_answerPolls_29 : decode cX6_answerPolls 29 = .ok (.return_, 1) := by decide +kernel
theorem dX6_makeStatus_0 : decode cX6_makeStatus 0 = .ok (.aload_n 1, 1) := by decide +kernel
theorem dX6_makeStatus_1 : decode cX6_makeStatus 1 = .ok (.getfield 108, 3) := by decide +kernel
theorem dX6_makeStatus_4 : decode cX6_makeStatus 4 = .ok (.istore_n 3, 1) := by decide +kernel
theorem dX6_makeStatus_5 : decode cX6_makeStatus 5 = .ok (.aload_n 1, 1) := by decide +kernel
theorem dX6_makeStatus_6 : decode cX6_makeStatus 6 = .ok (.iconst 0, 1) := by decide +kernel
theorem dX6_makeStatus_7 : decode cX6_makeStatus 7 = .ok (.invokevirtual 113, 3) := by decide +kernel
theorem dX6_makeStatus_10 : decode cX6_makeStatus 10 = .ok (.aload_n 1, 1) := by decide +kernel
theorem dX6_makeStatus_11 : decode cX6_makeStatus 11 = .ok (.iconst 0, 1) := by decide +kernel
theorem dX6_makeStatus_12 : decode cX6_makeStatus 12 = .ok (.invokevirtual 113, 3) := by decide +kernel
theorem dX6_makeStatus_15 : decode cX6_makeStatus 15 = .ok (.iconst 0, 1) := by decide +kernel
theorem dX6_makeStatus_16 : decode cX6_makeStatus 16 = .ok (.istore 4, 2) := by decide +kernel
theorem dX6_makeStatus_18 : decode cX6_makeStatus 18 = .ok (.aload_n 0, 1) := by decide +kernel
theorem dX6_makeStatus_19 : decode cX6_makeStatus 19 = .ok (.getfield 47, 3) := by decide +kernel
theorem dX6_makeStatus_22 : decode cX6_makeStatus 22 = .ok (.istore 5, 2) := by decide +kernel
theorem dX6_makeStatus_24 : decode cX6_makeStatus 24 = .ok (.aload_n 0, 1) := by decide +kernel
theorem dX6_makeStatus_25 : decode cX6_makeStatus 25 = .ok (.getfield 34, 3) := by decide +kernel
theorem dX6_makeStatus_28 : decode cX6_makeStatus 28 = .ok (.istore 6, 2) := by decide +kernel
theorem dX6_makeStatus_30 : decode cX6_makeStatus 30 = .ok (.iload 6, 2) := by decide +kernel
theorem dX6_makeStatus_32 : decode cX6_makeStatus 32 = .ok (.aload_n 0, 1) := by decide +kernel
theorem dX6_makeStatus_33 : decode cX6_makeStatus 33 = .ok (.getfield 47, 3) := by decide +kernel
theorem dX6_makeStatus_36 : decode cX6_makeStatus 36 = .ok (.if_icmp .ge 131, 3) := by decide +kernel
theorem dX6_makeStatus_39 : decode cX6_makeStatus 39 = .ok (.aload_n 0, 1) := by decide +kernel
theorem dX6_makeStatus_40 : decode cX6_makeStatus 40 = .ok (.iload 6, 2) := by decide +kernel
theorem dX6_makeStatus_42 : decode cX6_makeStatus 42 = .ok (.invokevirtual 40, 3) := by decide +kernel
theorem dX6_makeStatus_45 : decode cX6_makeStatus 45 = .ok (.astore 7, 2) := by decide +kernel
theorem dX6_makeStatus_47 : decode cX6_makeStatus 47 = .ok (.aload_n 0, 1) := by decide +kernel
theorem dX6_makeStatus_48 : decode cX6_makeStatus 48 = .ok (.iload 6, 2) := by decide +kernel
theorem dX6_makeStatus_50 : decode cX6_makeStatus 50 = .ok (.invokevirtual 109, 3) := by decide +kernel
theorem dX6_makeStatus_53 : decode cX6_makeStatus 53 = .ok (.ifCond .eq 6, 3) := by decide +kernel
theorem dX6_makeStatus_56 : decode cX6_makeStatus 56 = .ok (.goto 105, 3) := by decide +kernel
theorem dX6_makeStatus_59 : decode cX6_makeStatus 59 = .ok (.aload 7, 2) := by decide +kernel
theorem dX6_makeStatus_61 : decode cX6_makeStatus 61 = .ok (.getfield 63, 3) := by decide +kernel
theorem dX6_makeStatus_64 : decode cX6_makeStatus 64 = .ok (.ifCond .ne 7, 3) := by decide +kernel
theorem dX6_makeStatus_67 : decode cX6_makeStatus 67 = .ok (.iconst 1, 1) := by decide +kernel
theorem dX6_makeStatus_68 : decode cX6_makeStatus 68 = .ok (.goto 8, 3) := by decide +kernel
theorem dX6_makeStatus_71 : decode cX6_makeStatus 71 = .ok (.aload 7, 2) := by decide +kernel
theorem dX6_makeStatus_73 : decode cX6_makeStatus 73 = .ok (.invokevirtual 116, 3) := by decide +kernel
theorem dX6_makeStatus_76 : decode cX6_makeStatus 76 = .ok (.istore 8, 2) := by decide +kernel
theorem dX6_makeStatus_78 : decode cX6_makeStatus 78 = .ok (.aload 7, 2) := by decide +kernel
theorem dX6_makeStatus_80 : decode cX6_makeStatus 80 = .ok (.getfield 63, 3) := by decide +kernel
theorem dX6_makeStatus_83 : decode cX6_makeStatus 83 = .ok (.ifCond .ne 7, 3) := by decide +kernel
theorem dX6_makeStatus_86 : decode cX6_makeStatus 86 = .ok (.iconst 1, 1) := by decide +kernel
theorem dX6_makeStatus_87 : decode cX6_makeStatus 87 = .ok (.goto 7, 3) := by decide +kernel
theorem dX6_makeStatus_90 : decode cX6_makeStatus 90 = .ok (.iconst 3, 1) := by decide +kernel
theorem dX6_makeStatus_91 : decode cX6_makeStatus 91 = .ok (.iload 8, 2) := by decide +kernel
theorem dX6_makeStatus_93 : decode cX6_makeStatus 93 = .ok (.imul, 1) := by decide +kernel
theorem dX6_makeStatus_94 : decode cX6_makeStatus 94 = .ok (.istore 9, 2) := by decide +kernel
theorem dX6_makeStatus_96 : decode cX6_makeStatus 96 = .ok (.iload 4, 2) := by decide +kernel
theorem dX6_makeStatus_98 : decode cX6_makeStatus 98 = .ok (.iload 8, 2) := by decide +kernel
theorem dX6_makeStatus_100 : decode cX6_makeStatus 100 = .ok (.iadd, 1) := by decide +kernel
theorem dX6_makeStatus_101 : decode cX6_makeStatus 101 = .ok (.bipush 15, 2) := by decide +kernel
theorem dX6_makeStatus_103 : decode cX6_makeStatus 103 = .ok (.if_icmp .gt 16, 3) := by decide +kernel
theorem dX6_makeStatus_106 : decode cX6_makeStatus 106 = .ok (.aload_n 1, 1) := by decide +kernel
theorem dX6_makeStatus_107 : decode cX6_makeStatus 107 = .ok (.getfield 108, 3) := by decide +kernel
theorem dX6_makeStatus_110 : decode cX6_makeStatus 110 = .ok (.iload_n 3, 1) := by decide +kernel
theorem dX6_makeStatus_111 : decode cX6_makeStatus 111 = .ok (.isub, 1) := by decide +kernel
theorem dX6_makeStatus_112 : decode cX6_makeStatus 112 = .ok (.iload 9, 2) := by decide +kernel
theorem dX6_makeStatus_114 : decode cX6_makeStatus 114 = .ok (.iadd, 1) := by decide +kernel
theorem dX6_makeStatus_115 : decode cX6_makeStatus 115 = .ok (.iload_n 2, 1) := by decide +kernel
theorem dX6_makeStatus_116 : decode cX6_makeStatus 116 = .ok (.if_icmp .le 10, 3) := by decide +kernel
theorem dX6_makeStatus_119 : decode cX6_makeStatus 119 = .ok (.iload 6, 2) := by decide +kernel
theorem dX6_makeStatus_121 : decode cX6_makeStatus 121 = .ok (.istore 5, 2) := by decide +kernel
theorem dX6_makeStatus_123 : decode cX6_makeStatus 123 = .ok (.goto 44, 3) := by decide +kernel
theorem dX6_makeStatus_126 : decode cX6_makeStatus 126 = .ok (.aload 7, 2) := by decide +kernel
theorem dX6_makeStatus_128 : decode cX6_makeStatus 128 = .ok (.getfield 63, 3) := by decide +kernel
theorem dX6_makeStatus_131 : decode cX6_makeStatus 131 = .ok (.ifCond .ne 15, 3) := by decide +kernel
theorem dX6_makeStatus_134 : decode cX6_makeStatus 134 = .ok (.aload_n 1, 1) := by decide +kernel
theorem dX6_makeStatus_135 : decode cX6_makeStatus 135 = .ok (.iload 6, 2) := by decide +kernel
theorem dX6_makeStatus_137 : decode cX6_makeStatus 137 = .ok (.bipush 63, 2) := by decide +kernel
theorem dX6_makeStatus_139 : decode cX6_makeStatus 139 = .ok (.iand, 1) := by decide +kernel
theorem dX6_makeStatus_140 : decode cX6_makeStatus 140 = .ok (.invokevirtual 113, 3) := by decide +kernel
theorem dX6_makeStatus_143 : decode cX6_makeStatus 143 = .ok (.goto 11, 3) := by decide +kernel
theorem dX6_makeStatus_146 : decode cX6_makeStatus 146 = .ok (.aload 7, 2) := by decide +kernel
theorem dX6_makeStatus_148 : decode cX6_makeStatus 148 = .ok (.aload_n 1, 1) := by decide +kernel
theorem dX6_makeStatus_149 : decode cX6_makeStatus 149 = .ok (.iload 6, 2) := by decide +kernel
theorem dX6_makeStatus_151 : decode cX6_makeStatus 151 = .ok (.invokevirtual 120, 3) := by decide +kernel
theorem dX6_makeStatus_154 : decode cX6_makeStatus 154 = .ok (.iload 4, 2) := by decide +kernel
theorem dX6_makeStatus_156 : decode cX6_makeStatus 156 = .ok (.iload 8, 2) := by decide +kernel
theorem dX6_makeStatus_158 : decode cX6_makeStatus 158 = .ok (.iadd, 1) := by decide +kernel
theorem dX6_makeStatus_159 : decode cX6_makeStatus 159 = .ok (.istore 4, 2) := by decide +kernel
theorem dX6_makeStatus_161 : decode cX6_makeStatus 161 = .ok (.iinc 6 1, 3) := by decide +kernel
theorem dX6_makeStatus_164 : decode cX6_makeStatus 164 = .ok (.goto (-134), 3) := by decide +kernel
theorem dX6_makeStatus_167 : decode cX6_makeStatus 167 = .ok (.aload_n 1, 1) := by decide +kernel
theorem dX6_makeStatus_168 : decode cX6_makeStatus 168 = .ok (.iload_n 3, 1) := by decide +kernel
theorem dX6_makeStatus_169 : decode cX6_makeStatus 169 = .ok (.iload 4, 2) := by decide +kernel
theorem dX6_makeStatus_171 : decode cX6_makeStatus 171 = .ok (.invokevirtual 124, 3) := by decide +kernel
theorem dX6_makeStatus_174 : decode cX6_makeStatus 174 = .ok (.aload_n 1, 1) := by decide +kernel
theorem dX6_makeStatus_175 : decode cX6_makeStatus 175 = .ok (.iload_n 3, 1) := by decide +kernel
theorem dX6_makeStatus_176 : decode cX6_makeStatus 176 = .ok (.iconst 1, 1) := by decide +kernel
theorem dX6_makeStatus_177 : decode cX6_makeStatus 177 = .ok (.iadd, 1) := by decide +kernel
theorem dX6_makeStatus_178 : decode cX6_makeStatus 178 = .ok (.iload 5, 2) := by decide +kernel
theorem dX6_makeStatus_180 : decode cX6_makeStatus 180 = .ok (.bipush 63, 2) := by decide +kernel
theorem dX6_makeStatus_182 : decode cX6_makeStatus 182 = .ok (.iand, 1) := by decide +kernel
theorem dX6_makeStatus_183 : decode cX6_makeStatus 183 = .ok (.invokevirtual 124, 3) := by decide +kernel
theorem dX6_makeStatus_186 : decode cX6_makeStatus 186 = .ok (.aload_n 0, 1) := by decide +kernel
theorem dX6_makeStatus_187 : decode cX6_makeStatus 187 = .ok (.iconst 0, 1) := by decide +kernel
theorem dX6_makeStatus_188 : decode cX6_makeStatus 188 = .ok (.putfield 53, 3) := by decide +kernel
theorem dX6_makeStatus_191 : decode cX6_makeStatus 191 = .ok (.aload_n 0, 1) := by decide +kernel
theorem dX6_makeStatus_192 : decode cX6_makeStatus 192 = .ok (.iconst 5, 1) := by decide +kernel
theorem dX6_makeStatus_193 : decode cX6_makeStatus 193 = .ok (.putfield 60, 3) := by decide +kernel
theorem dX6_makeStatus_196 : decode cX6_makeStatus 196 = .ok (.aload_n 0, 1) := by decide +kernel
theorem dX6_makeStatus_197 : decode cX6_makeStatus 197 = .ok (.dup, 1) := by decide +kernel
theorem dX6_makeStatus_198 : decode cX6_makeStatus 198 = .ok (.getfield 127, 3) := by decide +kernel
theorem dX6_makeStatus_201 : decode cX6_makeStatus 201 = .ok (.iconst 1, 1) := by decide +kernel
theorem dX6_makeStatus_202 : decode cX6_makeStatus 202 = .ok (.iadd, 1) := by decide +kernel
theorem dX6_makeStatus_203 : decode cX6_makeStatus 203 = .ok (.putfield 127, 3) := by decide +kernel
theorem dX6_makeStatus_206 : decode cX6_makeStatus 206 = .ok (.return_, 1) := by decide +kernel
theorem dX7_init_0 : decode cX7_init 0 = .ok (.aload_n 0, 1) := by decide +kernel
theorem dX7_init_1 : decode cX7_init 1 = .ok (.invokespecial 3, 3) := by decide +kernel
theorem dX7_init_4 : decode cX7_init 4 = .ok (.aload_n 0, 1) := by decide +kernel
theorem dX7_init_5 : decode cX7_init 5 = .ok (.bipush 16, 2) := by decide +kernel
theorem dX7_init_7 : decode cX7_init 7 = .ok (.anewarray 9, 3) := by decide +kernel
theorem dX7_init_10 : decode cX7_init 10 = .ok (.putfield 11, 3) := by decide +kernel
theorem dX7_init_13 : decode cX7_init 13 = .ok (.aload_n 0, 1) := by decide +kernel
theorem dX7_init_14 : decode cX7_init 14 = .ok (.bipush 16, 2) := by decide +kernel
theorem dX7_init_16 : decode cX7_init 16 = .ok (.putfield 17, 3) := by decide +kernel
theorem dX7_init_19 : decode cX7_init 19 = .ok (.aload_n 0, 1) := by decide +kernel
theorem dX7_init_20 : decode cX7_init 20 = .ok (.iconst (-1), 1) := by decide +kernel
theorem dX7_init_21 : decode cX7_init 21 = .ok (.putfield 21, 3) := by decide +kernel
theorem dX7_init_24 : decode cX7_init 24 = .ok (.aload_n 0, 1) := by decide +kernel
theorem dX7_init_25 : decode cX7_init 25 = .ok (.new 24, 3) := by decide +kernel
theorem dX7_init_28 : decode cX7_init 28 = .ok (.dup, 1) := by decide +kernel
theorem dX7_init_29 : decode cX7_init 29 = .ok (.iload_n 1, 1) := by decide +kernel
theorem dX7_init_30 : decode cX7_init 30 = .ok (.invokespecial 26, 3) := by decide +kernel
theorem dX7_init_33 : decode cX7_init 33 = .ok (.putfield 29, 3) := by decide +kernel
theorem dX7_init_36 : decode cX7_init 36 = .ok (.iconst 0, 1) := by decide +kernel
theorem dX7_init_37 : decode cX7_init 37 = .ok (.istore_n 2, 1) := by decide +kernel
theorem dX7_init_38 : decode cX7_init 38 = .ok (.iload_n 2, 1) := by decide +kernel
theorem dX7_init_39 : decode cX7_init 39 = .ok (.aload_n 0, 1) := by decide +kernel
theorem dX7_init_40 : decode cX7_init 40 = .ok (.getfield 11, 3) := by decide +kernel
theorem dX7_init_43 : decode cX7_init 43 = .ok (.arraylength, 1) := by decide +kernel
theorem dX7_init_44 : decode cX7_init 44 = .ok (.if_icmp .ge 22, 3) := by decide +kernel
theorem dX7_init_47 : decode cX7_init 47 = .ok (.aload_n 0, 1) := by decide +kernel
theorem dX7_init_48 : decode cX7_init 48 = .ok (.getfield 11, 3) := by decide +kernel
theorem dX7_init_51 : decode cX7_init 51 = .ok (.iload_n 2, 1) := by decide +kernel
theorem dX7_init_52 : decode cX7_init 52 = .ok (.new 9, 3) := by decide +kernel
theorem dX7_init_55 : decode cX7_init 55 = .ok (.dup, 1) := by decide +kernel
theorem dX7_init_56 : decode cX7_init 56 = .ok (.invokespecial 33, 3) := by decide +kernel
theorem dX7_init_59 : decode cX7_init 59 = .ok (.aastore, 1) := by decide +kernel
theorem dX7_init_60 : decode cX7_init 60 = .ok (.iinc 2 1, 3) := by decide +kernel
theorem dX7_init_63 : decode cX7_init 63 = .ok (.goto (-25), 3) := by decide +kernel
theorem dX7_init_66 : decode cX7_init 66 = .ok (.return_, 1) := by decide +kernel
theorem dX7_pieceAt_0 : decode cX7_pieceAt 0 = .ok (.aload_n 0, 1) := by decide +kernel
theorem dX7_pieceAt_1 : decode cX7_pieceAt 1 = .ok (.getfield 11, 3) := by decide +kernel
theorem dX7_pieceAt_4 : decode cX7_pieceAt 4 = .ok (.iload_n 1, 1) := by decide +kernel
theorem dX7_pieceAt_5 : decode cX7_pieceAt 5 = .ok (.bipush 15, 2) := by decide +kernel
theorem dX7_pieceAt_7 : decode cX7_pieceAt 7 = .ok (.iand, 1) := by decide +kernel
theorem dX7_pieceAt_8 : decode cX7_pieceAt 8 = .ok (.aaload, 1) := by decide +kernel
theorem dX7_pieceAt_9 : decode cX7_pieceAt 9 = .ok (.areturn, 1) := by decide +kernel
theorem dX7_startAnew_0 : decode cX7_startAnew 0 = .ok (.aload_n 0, 1) := by decide +kernel
theorem dX7_startAnew_1 : decode cX7_startAnew 1 = .ok (.iconst 0, 1) := by decide +kernel
theorem dX7_startAnew_2 : decode cX7_startAnew 2 = .ok (.putfield 34, 3) := by decide +kernel
theorem dX7_startAnew_5 : decode cX7_startAnew 5 = .ok (.aload_n 0, 1) := by decide +kernel
theorem dX7_startAnew_6 : decode cX7_startAnew 6 = .ok (.iconst 0, 1) := by decide +kernel
theorem dX7_startAnew_7 : decode cX7_startAnew 7 = .ok (.putfield 37, 3) := by decide +kernel
theorem dX7_startAnew_10 : decode cX7_startAnew 10 = .ok (.aload_n 0, 1) := by decide +kernel
theorem dX7_startAnew_11 : decode cX7_startAnew 11 = .ok (.iconst 0, 1) := by decide +kernel
theorem dX7_startAnew_12 : decode cX7_startAnew 12 = .ok (.putfield 40, 3) := by decide +kernel
theorem dX7_startAnew_15 : decode cX7_startAnew 15 = .ok (.aload_n 0, 1) := by decide +kernel
theorem dX7_startAnew_16 : decode cX7_startAnew 16 = .ok (.iconst 0, 1) := by decide +kernel
theorem dX7_startAnew_17 : decode cX7_startAnew 17 = .ok (.putfield 43, 3) := by decide +kernel
theorem dX7_startAnew_20 : decode cX7_startAnew 20 = .ok (.aload_n 0, 1) := by decide +kernel
theorem dX7_startAnew_21 : decode cX7_startAnew 21 = .ok (.iconst 0, 1) := by decide +kernel
theorem dX7_startAnew_22 : decode cX7_startAnew 22 = .ok (.putfield 47, 3) := by decide +kernel
theorem dX7_startAnew_25 : decode cX7_startAnew 25 = .ok (.aload_n 0, 1) := by decide +kernel
theorem dX7_startAnew_26 : decode cX7_startAnew 26 = .ok (.iconst (-1), 1) := by decide +kernel
theorem dX7_startAnew_27 : decode cX7_startAnew 27 = .ok (.putfield 21, 3) := by decide +kernel
theorem dX7_startAnew_30 : decode cX7_startAnew 30 = .ok (.aload_n 0, 1) := by decide +kernel
theorem dX7_startAnew_31 : decode cX7_startAnew 31 = .ok (.iconst 0, 1) := by decide +kernel
theorem dX7_startAnew_32 : decode cX7_startAnew 32 = .ok (.putfield 50, 3) := by decide +kernel
theorem dX7_startAnew_35 : decode cX7_startAnew 35 = .ok (.aload_n 0, 1) := by decide +kernel
theorem dX7_startAnew_36 : decode cX7_startAnew 36 = .ok (.iconst 0, 1) := by decide +kernel
theorem dX7_startAnew_37 : decode cX7_startAnew 37 = .ok (.putfield 53, 3) := by decide +kernel
theorem dX7_startAnew_40 : decode cX7_startAnew 40 = .ok (.return_, 1) := by decide +kernel
theorem dX7_countDown_0 : decode cX7_countDown 0 = .ok (.aload_n 0, 1) := by decide +kernel
theorem dX7_countDown_1 : decode cX7_countDown 1 = .ok (.getfield 50, 3) := by decide +kernel
theorem dX7_countDown_4 : decode cX7_countDown 4 = .ok (.ifCond .ne 4, 3) := by decide +kernel
theorem dX7_countDown_7 : decode cX7_countDown 7 = .ok (.return_, 1) := by decide +kernel
theorem dX7_countDown_8 : decode cX7_countDown 8 = .ok (.aload_n 0, 1) := by decide +kernel
theorem dX7_countDown_9 : decode cX7_countDown 9 = .ok (.dup, 1) := by decide +kernel
theorem dX7_countDown_10 : decode cX7_countDown 10 = .ok (.getfield 50, 3) := by decide +kernel
theorem dX7_countDown_13 : decode cX7_countDown 13 = .ok (.iconst 1, 1) := by decide +kernel
theorem dX7_countDown_14 : decode cX7_countDown 14 = .ok (.isub, 1) := by decide +kernel
theorem dX7_countDown_15 : decode cX7_countDown 15 = .ok (.putfield 50, 3) := by decide +kernel
theorem dX7_countDown_18 : decode cX7_countDown 18 = .ok (.aload_n 0, 1) := by decide +kernel
theorem dX7_countDown_19 : decode cX7_countDown 19 = .ok (.getfield 50, 3) := by decide +kernel
theorem dX7_countDown_22 : decode cX7_countDown 22 = .ok (.ifCond .le 4, 3) := by decide +kernel
theorem dX7_countDown_25 : decode cX7_countDown 25 = .ok (.return_, 1) := by decide +kernel
theorem dX7_countDown_26 : decode cX7_countDown 26 = .ok (.aload_n 0, 1) := by decide +kernel
theorem dX7_countDown_27 : decode cX7_countDown 27 = .ok (.iconst 1, 1) := by decide +kernel
theorem dX7_countDown_28 : decode cX7_countDown 28 = .ok (.putfield 43, 3) := by decide +kernel
theorem dX7_countDown_31 : decode cX7_countDown 31 = .ok (.aload_n 0, 1) := by decide +kernel
theorem dX7_countDown_32 : decode cX7_countDown 32 = .ok (.getfield 29, 3) := by decide +kernel
theorem dX7_countDown_35 : decode cX7_countDown 35 = .ok (.getfield 56, 3) := by decide +kernel
theorem dX7_countDown_38 : decode cX7_countDown 38 = .ok (.ifCond .eq 17, 3) := by decide +kernel
theorem dX7_countDown_41 : decode cX7_countDown 41 = .ok (.aload_n 0, 1) := by decide +kernel
theorem dX7_countDown_42 : decode cX7_countDown 42 = .ok (.getfield 37, 3) := by decide +kernel
theorem dX7_countDown_45 : decode cX7_countDown 45 = .ok (.aload_n 0, 1) := by decide +kernel
theorem dX7_countDown_46 : decode cX7_countDown 46 = .ok (.getfield 34, 3) := by decide +kernel
theorem dX7_countDown_49 : decode cX7_countDown 49 = .ok (.isub, 1) := by decide +kernel
theorem dX7_countDown_50 : decode cX7_countDown 50 = .ok (.bipush 16, 2) := by decide +kernel
theorem dX7_countDown_52 : decode cX7_countDown 52 = .ok (.if_icmp .ne 7, 3) := by decide +kernel
theorem dX7_countDown_55 : decode cX7_countDown 55 = .ok (.iconst 1, 1) := by decide +kernel
theorem dX7_countDown_56 : decode cX7_countDown 56 = .ok (.goto 4, 3) := by decide +kernel
theorem dX7_countDown_59 : decode cX7_countDown 59 = .ok (.iconst 0, 1) := by decide +kernel
theorem dX7_countDown_60 : decode cX7_countDown 60 = .ok (.istore_n 1, 1) := by decide +kernel
theorem dX7_countDown_61 : decode cX7_countDown 61 = .ok (.aload_n 0, 1) := by decide +kernel
theorem dX7_countDown_62 : decode cX7_countDown 62 = .ok (.getfield 40, 3) := by decide +kernel
theorem dX7_countDown_65 : decode cX7_countDown 65 = .ok (.ifCond .ne 34, 3) := by decide +kernel
theorem dX7_countDown_68 : decode cX7_countDown 68 = .ok (.aload_n 0, 1) := by decide +kernel
theorem dX7_countDown_69 : decode cX7_countDown 69 = .ok (.getfield 34, 3) := by decide +kernel
theorem dX7_countDown_72 : decode cX7_countDown 72 = .ok (.aload_n 0, 1) := by decide +kernel
theorem dX7_countDown_73 : decode cX7_countDown 73 = .ok (.getfield 37, 3) := by decide +kernel
theorem dX7_countDown_76 : decode cX7_countDown 76 = .ok (.if_icmp .ge 23, 3) := by decide +kernel
theorem dX7_countDown_79 : decode cX7_countDown 79 = .ok (.iload_n 1, 1) := by decide +kernel
theorem dX7_countDown_80 : decode cX7_countDown 80 = .ok (.ifCond .eq 19, 3) := by decide +kernel
theorem dX7_countDown_83 : decode cX7_countDown 83 = .ok (.aload_n 0, 1) := by decide +kernel
theorem dX7_countDown_84 : decode cX7_countDown 84 = .ok (.aload_n 0, 1) := by decide +kernel
theorem dX7_countDown_85 : decode cX7_countDown 85 = .ok (.aload_n 0, 1) := by decide +kernel
theorem dX7_countDown_86 : decode cX7_countDown 86 = .ok (.getfield 34, 3) := by decide +kernel
theorem dX7_countDown_89 : decode cX7_countDown 89 = .ok (.invokevirtual 59, 3) := by decide +kernel
theorem dX7_countDown_92 : decode cX7_countDown 92 = .ok (.iconst 0, 1) := by decide +kernel
theorem dX7_countDown_93 : decode cX7_countDown 93 = .ok (.sipush 240, 3) := by decide +kernel
theorem dX7_countDown_96 : decode cX7_countDown 96 = .ok (.invokevirtual 63, 3) := by decide +kernel
theorem dX7_countDown_99 : decode cX7_countDown 99 = .ok (.return_, 1) := by decide +kernel
theorem dX7_prepare_0 : decode cX7_prepare 0 = .ok (.aload_n 0, 1) := by decide +kernel
theorem dX7_prepare_1 : decode cX7_prepare 1 = .ok (.getfield 47, 3) := by decide +kernel
theorem dX7_prepare_4 : decode cX7_prepare 4 = .ok (.ifCond .ne 44, 3) := by decide +kernel
theorem dX7_prepare_7 : decode cX7_prepare 7 = .ok (.aload_n 0, 1) := by decide +kernel
theorem dX7_prepare_8 : decode cX7_prepare 8 = .ok (.getfield 50, 3) := by decide +kernel
theorem dX7_prepare_11 : decode cX7_prepare 11 = .ok (.ifCond .ne 37, 3) := by decide +kernel
theorem dX7_prepare_14 : decode cX7_prepare 14 = .ok (.aload_n 0, 1) := by decide +kernel
theorem dX7_prepare_15 : decode cX7_prepare 15 = .ok (.getfield 34, 3) := by decide +kernel
theorem dX7_prepare_18 : decode cX7_prepare 18 = .ok (.aload_n 0, 1) := by decide +kernel
theorem dX7_prepare_19 : decode cX7_prepare 19 = .ok (.getfield 37, 3) := by decide +kernel
theorem dX7_prepare_22 : decode cX7_prepare 22 = .ok (.if_icmp .ge 26, 3) := by decide +kernel
theorem dX7_prepare_25 : decode cX7_prepare 25 = .ok (.aload_n 0, 1) := by decide +kernel
theorem dX7_prepare_26 : decode cX7_prepare 26 = .ok (.getfield 29, 3) := by decide +kernel
theorem dX7_prepare_29 : decode cX7_prepare 29 = .ok (.getfield 56, 3) := by decide +kernel
theorem dX7_prepare_32 : decode cX7_prepare 32 = .ok (.ifCond .ne 16, 3) := by decide +kernel
theorem dX7_prepare_35 : decode cX7_prepare 35 = .ok (.aload_n 0, 1) := by decide +kernel
theorem dX7_prepare_36 : decode cX7_prepare 36 = .ok (.getfield 40, 3) := by decide +kernel
theorem dX7_prepare_39 : decode cX7_prepare 39 = .ok (.ifCond .ne 9, 3) := by decide +kernel
theorem dX7_prepare_42 : decode cX7_prepare 42 = .ok (.aload_n 0, 1) := by decide +kernel
theorem dX7_prepare_43 : decode cX7_prepare 43 = .ok (.bipush 10, 2) := by decide +kernel
theorem dX7_prepare_45 : decode cX7_prepare 45 = .ok (.putfield 50, 3) := by decide +kernel
theorem dX7_prepare_48 : decode cX7_prepare 48 = .ok (.aload_n 0, 1) := by decide +kernel
theorem dX7_prepare_49 : decode cX7_prepare 49 = .ok (.getfield 67, 3) := by decide +kernel
theorem dX7_prepare_52 : decode cX7_prepare 52 = .ok (.iconst 5, 1) := by decide +kernel
theorem dX7_prepare_53 : decode cX7_prepare 53 = .ok (.aload_n 0, 1) := by decide +kernel
theorem dX7_prepare_54 : decode cX7_prepare 54 = .ok (.getfield 17, 3) := by decide +kernel
theorem dX7_prepare_57 : decode cX7_prepare 57 = .ok (.imul, 1) := by decide +kernel
theorem dX7_prepare_58 : decode cX7_prepare 58 = .ok (.if_icmp .ge 25, 3) := by decide +kernel
theorem dX7_prepare_61 : decode cX7_prepare 61 = .ok (.aload_n 0, 1) := by decide +kernel
theorem dX7_prepare_62 : decode cX7_prepare 62 = .ok (.aload_n 0, 1) := by decide +kernel
theorem dX7_prepare_63 : decode cX7_prepare 63 = .ok (.getfield 67, 3) := by decide +kernel
theorem dX7_prepare_66 : decode cX7_prepare 66 = .ok (.aload_n 0, 1) := by decide +kernel
theorem dX7_prepare_67 : decode cX7_prepare 67 = .ok (.getfield 17, 3) := by decide +kernel
theorem dX7_prepare_70 : decode cX7_prepare 70 = .ok (.iadd, 1) := by decide +kernel
theorem dX7_prepare_71 : decode cX7_prepare 71 = .ok (.iconst 5, 1) := by decide +kernel
theorem dX7_prepare_72 : decode cX7_prepare 72 = .ok (.aload_n 0, 1) := by decide +kernel
theorem dX7_prepare_73 : decode cX7_prepare 73 = .ok (.getfield 17, 3) := by decide +kernel
theorem dX7_prepare_76 : decode cX7_prepare 76 = .ok (.imul, 1) := by decide +kernel
theorem dX7_prepare_77 : decode cX7_prepare 77 = .ok (.invokestatic 70, 3) := by decide +kernel
theorem dX7_prepare_80 : decode cX7_prepare 80 = .ok (.putfield 67, 3) := by decide +kernel
theorem dX7_prepare_83 : decode cX7_prepare 83 = .ok (.return_, 1) := by decide +kernel
theorem dX7_bringAgain_0 : decode cX7_bringAgain 0 = .ok (.aload_n 1, 1) := by decide +kernel
theorem dX7_bringAgain_1 : decode cX7_bringAgain 1 = .ok (.getfield 76, 3) := by decide +kernel
theorem dX7_bringAgain_4 : decode cX7_bringAgain 4 = .ok (.ifCond .ne 37, 3) := by decide +kernel
theorem dX7_bringAgain_7 : decode cX7_bringAgain 7 = .ok (.aload_n 1, 1) := by decide +kernel
theorem dX7_bringAgain_8 : decode cX7_bringAgain 8 = .ok (.dup, 1) := by decide +kernel
theorem dX7_bringAgain_9 : decode cX7_bringAgain 9 = .ok (.getfield 79, 3) := by decide +kernel
theorem dX7_bringAgain_12 : decode cX7_bringAgain 12 = .ok (.iconst 1, 1) := by decide +kernel
